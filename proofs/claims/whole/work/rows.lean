section
-- ===== PART A: goes FIRST, ahead of the names: the tables' words, and 'selects' of the private methods out of them =====
/-- a private method of a class that the tables say can be made, by its rows of tables_1 -/
def lw_okq (q : MethodName × Nat) : Prop := (q.1.cls ≠ "java/lang/invoke/MethodHandle" ∧ q.1.cls ≠ "java/lang/invoke/VarHandle") ∧ Cond.instantiable q.1.cls q.2 ∈ tables_1 ∧ Cond.privateMethod q.1 ∈ tables_1 ∧ Cond.instanceMethod q.1 ∈ tables_1
theorem lw_p0 : lw_okq (⟨"ScanMill", "forgetScan", "()V"⟩, 7) := ⟨⟨by decide +kernel, by decide +kernel⟩, List.mem_of_getElem? (i := 16) (by decide +kernel), List.mem_of_getElem? (i := 168) (by decide +kernel), List.mem_of_getElem? (i := 169) (by decide +kernel)⟩
theorem lw_p1 : lw_okq (⟨"ScanMill$Liveness", "sweep", "(LScanMill$Row;)Z"⟩, 2) := ⟨⟨by decide +kernel, by decide +kernel⟩, List.mem_of_getElem? (i := 47) (by decide +kernel), List.mem_of_getElem? (i := 203) (by decide +kernel), List.mem_of_getElem? (i := 204) (by decide +kernel)⟩
theorem lw_p2 : lw_okq (⟨"ScanMill$Row", "holds", "(I)Z"⟩, 5) := ⟨⟨by decide +kernel, by decide +kernel⟩, List.mem_of_getElem? (i := 24) (by decide +kernel), List.mem_of_getElem? (i := 219) (by decide +kernel), List.mem_of_getElem? (i := 220) (by decide +kernel)⟩
theorem lw_p3 : lw_okq (⟨"ScanMill$Liveness", "setBehind", "(LScanMill$Row;I)I"⟩, 2) := ⟨⟨by decide +kernel, by decide +kernel⟩, List.mem_of_getElem? (i := 47) (by decide +kernel), List.mem_of_getElem? (i := 231) (by decide +kernel), List.mem_of_getElem? (i := 232) (by decide +kernel)⟩
theorem lw_p4 : lw_okq (⟨"ScanMill$Liveness", "setAhead", "(I)I"⟩, 2) := ⟨⟨by decide +kernel, by decide +kernel⟩, List.mem_of_getElem? (i := 47) (by decide +kernel), List.mem_of_getElem? (i := 240) (by decide +kernel), List.mem_of_getElem? (i := 241) (by decide +kernel)⟩
theorem lw_p5 : lw_okq (⟨"ScanMill$Places", "forget", "(I)V"⟩, 11) := ⟨⟨by decide +kernel, by decide +kernel⟩, List.mem_of_getElem? (i := 60) (by decide +kernel), List.mem_of_getElem? (i := 252) (by decide +kernel), List.mem_of_getElem? (i := 253) (by decide +kernel)⟩
theorem lw_p6 : lw_okq (⟨"ScanMill$Places", "findTimes", "(LScanMill$Row;LScanMill$Liveness;)V"⟩, 11) := ⟨⟨by decide +kernel, by decide +kernel⟩, List.mem_of_getElem? (i := 60) (by decide +kernel), List.mem_of_getElem? (i := 261) (by decide +kernel), List.mem_of_getElem? (i := 262) (by decide +kernel)⟩
theorem lw_p7 : lw_okq (⟨"ScanMill$Places", "note", "(II)V"⟩, 11) := ⟨⟨by decide +kernel, by decide +kernel⟩, List.mem_of_getElem? (i := 60) (by decide +kernel), List.mem_of_getElem? (i := 269) (by decide +kernel), List.mem_of_getElem? (i := 270) (by decide +kernel)⟩
theorem lw_p8 : lw_okq (⟨"ScanMill$Places", "findOverCall", "(LScanMill$Row;)V"⟩, 11) := ⟨⟨by decide +kernel, by decide +kernel⟩, List.mem_of_getElem? (i := 60) (by decide +kernel), List.mem_of_getElem? (i := 276) (by decide +kernel), List.mem_of_getElem? (i := 277) (by decide +kernel)⟩
theorem lw_p9 : lw_okq (⟨"ScanMill$Places", "orderByFirst", "()V"⟩, 11) := ⟨⟨by decide +kernel, by decide +kernel⟩, List.mem_of_getElem? (i := 60) (by decide +kernel), List.mem_of_getElem? (i := 285) (by decide +kernel), List.mem_of_getElem? (i := 286) (by decide +kernel)⟩
theorem lw_p10 : lw_okq (⟨"ScanMill$Places", "giveRegisters", "()V"⟩, 11) := ⟨⟨by decide +kernel, by decide +kernel⟩, List.mem_of_getElem? (i := 60) (by decide +kernel), List.mem_of_getElem? (i := 293) (by decide +kernel), List.mem_of_getElem? (i := 294) (by decide +kernel)⟩
theorem lw_p11 : lw_okq (⟨"ScanMill$Places", "giveRegister", "(I)V"⟩, 11) := ⟨⟨by decide +kernel, by decide +kernel⟩, List.mem_of_getElem? (i := 60) (by decide +kernel), List.mem_of_getElem? (i := 301) (by decide +kernel), List.mem_of_getElem? (i := 302) (by decide +kernel)⟩
theorem lw_p12 : lw_okq (⟨"ScanMill$Places", "leastFree", "([III)I"⟩, 11) := ⟨⟨by decide +kernel, by decide +kernel⟩, List.mem_of_getElem? (i := 60) (by decide +kernel), List.mem_of_getElem? (i := 305) (by decide +kernel), List.mem_of_getElem? (i := 306) (by decide +kernel)⟩
theorem lw_p13 : lw_okq (⟨"ScanMill$Places", "takeRegister", "(II)V"⟩, 11) := ⟨⟨by decide +kernel, by decide +kernel⟩, List.mem_of_getElem? (i := 60) (by decide +kernel), List.mem_of_getElem? (i := 313) (by decide +kernel), List.mem_of_getElem? (i := 314) (by decide +kernel)⟩
theorem lw_p14 : lw_okq (⟨"ScanMill$Places", "registerHeldLongest", "()I"⟩, 11) := ⟨⟨by decide +kernel, by decide +kernel⟩, List.mem_of_getElem? (i := 60) (by decide +kernel), List.mem_of_getElem? (i := 317) (by decide +kernel), List.mem_of_getElem? (i := 318) (by decide +kernel)⟩
theorem lw_p15 : lw_okq (⟨"ScanMill$Places", "giveSlots", "()V"⟩, 11) := ⟨⟨by decide +kernel, by decide +kernel⟩, List.mem_of_getElem? (i := 60) (by decide +kernel), List.mem_of_getElem? (i := 321) (by decide +kernel), List.mem_of_getElem? (i := 322) (by decide +kernel)⟩
def lw_privs_1 : List (MethodName × Nat) := [(⟨"ScanMill", "forgetScan", "()V"⟩, 7), (⟨"ScanMill$Liveness", "sweep", "(LScanMill$Row;)Z"⟩, 2), (⟨"ScanMill$Row", "holds", "(I)Z"⟩, 5), (⟨"ScanMill$Liveness", "setBehind", "(LScanMill$Row;I)I"⟩, 2), (⟨"ScanMill$Liveness", "setAhead", "(I)I"⟩, 2), (⟨"ScanMill$Places", "forget", "(I)V"⟩, 11), (⟨"ScanMill$Places", "findTimes", "(LScanMill$Row;LScanMill$Liveness;)V"⟩, 11), (⟨"ScanMill$Places", "note", "(II)V"⟩, 11), (⟨"ScanMill$Places", "findOverCall", "(LScanMill$Row;)V"⟩, 11), (⟨"ScanMill$Places", "orderByFirst", "()V"⟩, 11), (⟨"ScanMill$Places", "giveRegisters", "()V"⟩, 11), (⟨"ScanMill$Places", "giveRegister", "(I)V"⟩, 11), (⟨"ScanMill$Places", "leastFree", "([III)I"⟩, 11), (⟨"ScanMill$Places", "takeRegister", "(II)V"⟩, 11), (⟨"ScanMill$Places", "registerHeldLongest", "()I"⟩, 11), (⟨"ScanMill$Places", "giveSlots", "()V"⟩, 11)]
theorem lw_r1 : ∀ q ∈ lw_privs_1, lw_okq q := List.forall_mem_cons.mpr ⟨lw_p0, List.forall_mem_cons.mpr ⟨lw_p1, List.forall_mem_cons.mpr ⟨lw_p2, List.forall_mem_cons.mpr ⟨lw_p3, List.forall_mem_cons.mpr ⟨lw_p4, List.forall_mem_cons.mpr ⟨lw_p5, List.forall_mem_cons.mpr ⟨lw_p6, List.forall_mem_cons.mpr ⟨lw_p7, List.forall_mem_cons.mpr ⟨lw_p8, List.forall_mem_cons.mpr ⟨lw_p9, List.forall_mem_cons.mpr ⟨lw_p10, List.forall_mem_cons.mpr ⟨lw_p11, List.forall_mem_cons.mpr ⟨lw_p12, List.forall_mem_cons.mpr ⟨lw_p13, List.forall_mem_cons.mpr ⟨lw_p14, List.forall_mem_cons.mpr ⟨lw_p15, fun _ h => absurd h List.not_mem_nil⟩⟩⟩⟩⟩⟩⟩⟩⟩⟩⟩⟩⟩⟩⟩⟩
theorem lw_p16 : lw_okq (⟨"ScanMill$Places", "giveSlot", "(I)V"⟩, 11) := ⟨⟨by decide +kernel, by decide +kernel⟩, List.mem_of_getElem? (i := 60) (by decide +kernel), List.mem_of_getElem? (i := 325) (by decide +kernel), List.mem_of_getElem? (i := 326) (by decide +kernel)⟩
theorem lw_p17 : lw_okq (⟨"ScanMill", "runState", "()I"⟩, 7) := ⟨⟨by decide +kernel, by decide +kernel⟩, List.mem_of_getElem? (i := 16) (by decide +kernel), List.mem_of_getElem? (i := 389) (by decide +kernel), List.mem_of_getElem? (i := 390) (by decide +kernel)⟩
theorem lw_p18 : lw_okq (⟨"java/lang/Throwable", "fillInStackTrace", "(I)Ljava/lang/Throwable;"⟩, 6) := ⟨⟨by decide +kernel, by decide +kernel⟩, List.mem_of_getElem? (i := 440) (by decide +kernel), List.mem_of_getElem? (i := 438) (by decide +kernel), List.mem_of_getElem? (i := 439) (by decide +kernel)⟩
theorem lw_p19 : lw_okq (⟨"ScanMill$Machine", "write", "(LScanMill$Places;II)V"⟩, 7) := ⟨⟨by decide +kernel, by decide +kernel⟩, List.mem_of_getElem? (i := 101) (by decide +kernel), List.mem_of_getElem? (i := 524) (by decide +kernel), List.mem_of_getElem? (i := 525) (by decide +kernel)⟩
theorem lw_p20 : lw_okq (⟨"ScanMill$Machine", "keep", "(I)V"⟩, 7) := ⟨⟨by decide +kernel, by decide +kernel⟩, List.mem_of_getElem? (i := 101) (by decide +kernel), List.mem_of_getElem? (i := 528) (by decide +kernel), List.mem_of_getElem? (i := 529) (by decide +kernel)⟩
theorem lw_p21 : lw_okq (⟨"ScanMillModel", "forget", "()V"⟩, 29) := ⟨⟨by decide +kernel, by decide +kernel⟩, List.mem_of_getElem? (i := 601) (by decide +kernel), List.mem_of_getElem? (i := 709) (by decide +kernel), List.mem_of_getElem? (i := 710) (by decide +kernel)⟩
theorem lw_p22 : lw_okq (⟨"ScanMillModel", "lives", "(II)Z"⟩, 29) := ⟨⟨by decide +kernel, by decide +kernel⟩, List.mem_of_getElem? (i := 601) (by decide +kernel), List.mem_of_getElem? (i := 725) (by decide +kernel), List.mem_of_getElem? (i := 726) (by decide +kernel)⟩
theorem lw_p23 : lw_okq (⟨"ScanMillModel", "goTo", "(I)V"⟩, 29) := ⟨⟨by decide +kernel, by decide +kernel⟩, List.mem_of_getElem? (i := 601) (by decide +kernel), List.mem_of_getElem? (i := 729) (by decide +kernel), List.mem_of_getElem? (i := 730) (by decide +kernel)⟩
theorem lw_p24 : lw_okq (⟨"ScanMillModel", "reads", "(II)Z"⟩, 29) := ⟨⟨by decide +kernel, by decide +kernel⟩, List.mem_of_getElem? (i := 601) (by decide +kernel), List.mem_of_getElem? (i := 733) (by decide +kernel), List.mem_of_getElem? (i := 734) (by decide +kernel)⟩
theorem lw_p25 : lw_okq (⟨"ScanMillModel", "sets", "(II)Z"⟩, 29) := ⟨⟨by decide +kernel, by decide +kernel⟩, List.mem_of_getElem? (i := 601) (by decide +kernel), List.mem_of_getElem? (i := 737) (by decide +kernel), List.mem_of_getElem? (i := 738) (by decide +kernel)⟩
theorem lw_p26 : lw_okq (⟨"ScanMillModel", "findTimes", "(I)V"⟩, 29) := ⟨⟨by decide +kernel, by decide +kernel⟩, List.mem_of_getElem? (i := 601) (by decide +kernel), List.mem_of_getElem? (i := 745) (by decide +kernel), List.mem_of_getElem? (i := 746) (by decide +kernel)⟩
theorem lw_p27 : lw_okq (⟨"ScanMillModel", "time", "(II)V"⟩, 29) := ⟨⟨by decide +kernel, by decide +kernel⟩, List.mem_of_getElem? (i := 601) (by decide +kernel), List.mem_of_getElem? (i := 749) (by decide +kernel), List.mem_of_getElem? (i := 750) (by decide +kernel)⟩
theorem lw_p28 : lw_okq (⟨"ScanMillModel", "startOver", "()V"⟩, 29) := ⟨⟨by decide +kernel, by decide +kernel⟩, List.mem_of_getElem? (i := 601) (by decide +kernel), List.mem_of_getElem? (i := 753) (by decide +kernel), List.mem_of_getElem? (i := 754) (by decide +kernel)⟩
theorem lw_p29 : lw_okq (⟨"ScanMillModel", "nextOne", "(Z)I"⟩, 29) := ⟨⟨by decide +kernel, by decide +kernel⟩, List.mem_of_getElem? (i := 601) (by decide +kernel), List.mem_of_getElem? (i := 757) (by decide +kernel), List.mem_of_getElem? (i := 758) (by decide +kernel)⟩
theorem lw_p30 : lw_okq (⟨"ScanMillModel", "giveRegister", "(I)V"⟩, 29) := ⟨⟨by decide +kernel, by decide +kernel⟩, List.mem_of_getElem? (i := 601) (by decide +kernel), List.mem_of_getElem? (i := 761) (by decide +kernel), List.mem_of_getElem? (i := 762) (by decide +kernel)⟩
theorem lw_p31 : lw_okq (⟨"ScanMillModel", "giveSlot", "(I)V"⟩, 29) := ⟨⟨by decide +kernel, by decide +kernel⟩, List.mem_of_getElem? (i := 601) (by decide +kernel), List.mem_of_getElem? (i := 765) (by decide +kernel), List.mem_of_getElem? (i := 766) (by decide +kernel)⟩
def lw_privs_2 : List (MethodName × Nat) := [(⟨"ScanMill$Places", "giveSlot", "(I)V"⟩, 11), (⟨"ScanMill", "runState", "()I"⟩, 7), (⟨"java/lang/Throwable", "fillInStackTrace", "(I)Ljava/lang/Throwable;"⟩, 6), (⟨"ScanMill$Machine", "write", "(LScanMill$Places;II)V"⟩, 7), (⟨"ScanMill$Machine", "keep", "(I)V"⟩, 7), (⟨"ScanMillModel", "forget", "()V"⟩, 29), (⟨"ScanMillModel", "lives", "(II)Z"⟩, 29), (⟨"ScanMillModel", "goTo", "(I)V"⟩, 29), (⟨"ScanMillModel", "reads", "(II)Z"⟩, 29), (⟨"ScanMillModel", "sets", "(II)Z"⟩, 29), (⟨"ScanMillModel", "findTimes", "(I)V"⟩, 29), (⟨"ScanMillModel", "time", "(II)V"⟩, 29), (⟨"ScanMillModel", "startOver", "()V"⟩, 29), (⟨"ScanMillModel", "nextOne", "(Z)I"⟩, 29), (⟨"ScanMillModel", "giveRegister", "(I)V"⟩, 29), (⟨"ScanMillModel", "giveSlot", "(I)V"⟩, 29)]
theorem lw_r2 : ∀ q ∈ lw_privs_2, lw_okq q := List.forall_mem_cons.mpr ⟨lw_p16, List.forall_mem_cons.mpr ⟨lw_p17, List.forall_mem_cons.mpr ⟨lw_p18, List.forall_mem_cons.mpr ⟨lw_p19, List.forall_mem_cons.mpr ⟨lw_p20, List.forall_mem_cons.mpr ⟨lw_p21, List.forall_mem_cons.mpr ⟨lw_p22, List.forall_mem_cons.mpr ⟨lw_p23, List.forall_mem_cons.mpr ⟨lw_p24, List.forall_mem_cons.mpr ⟨lw_p25, List.forall_mem_cons.mpr ⟨lw_p26, List.forall_mem_cons.mpr ⟨lw_p27, List.forall_mem_cons.mpr ⟨lw_p28, List.forall_mem_cons.mpr ⟨lw_p29, List.forall_mem_cons.mpr ⟨lw_p30, List.forall_mem_cons.mpr ⟨lw_p31, fun _ h => absurd h List.not_mem_nil⟩⟩⟩⟩⟩⟩⟩⟩⟩⟩⟩⟩⟩⟩⟩⟩
theorem lw_p32 : lw_okq (⟨"ScanMillModel", "isEnd", "()Z"⟩, 29) := ⟨⟨by decide +kernel, by decide +kernel⟩, List.mem_of_getElem? (i := 601) (by decide +kernel), List.mem_of_getElem? (i := 777) (by decide +kernel), List.mem_of_getElem? (i := 778) (by decide +kernel)⟩
theorem lw_p33 : lw_okq (⟨"ScanMillModel", "step", "()V"⟩, 29) := ⟨⟨by decide +kernel, by decide +kernel⟩, List.mem_of_getElem? (i := 601) (by decide +kernel), List.mem_of_getElem? (i := 785) (by decide +kernel), List.mem_of_getElem? (i := 786) (by decide +kernel)⟩
theorem lw_p34 : lw_okq (⟨"ScanMillModel", "get", "(I)I"⟩, 29) := ⟨⟨by decide +kernel, by decide +kernel⟩, List.mem_of_getElem? (i := 601) (by decide +kernel), List.mem_of_getElem? (i := 789) (by decide +kernel), List.mem_of_getElem? (i := 790) (by decide +kernel)⟩
theorem lw_p35 : lw_okq (⟨"ScanMillModel", "set", "(II)V"⟩, 29) := ⟨⟨by decide +kernel, by decide +kernel⟩, List.mem_of_getElem? (i := 601) (by decide +kernel), List.mem_of_getElem? (i := 793) (by decide +kernel), List.mem_of_getElem? (i := 794) (by decide +kernel)⟩
def lw_privs_3 : List (MethodName × Nat) := [(⟨"ScanMillModel", "isEnd", "()Z"⟩, 29), (⟨"ScanMillModel", "step", "()V"⟩, 29), (⟨"ScanMillModel", "get", "(I)I"⟩, 29), (⟨"ScanMillModel", "set", "(II)V"⟩, 29)]
theorem lw_r3 : ∀ q ∈ lw_privs_3, lw_okq q := List.forall_mem_cons.mpr ⟨lw_p32, List.forall_mem_cons.mpr ⟨lw_p33, List.forall_mem_cons.mpr ⟨lw_p34, List.forall_mem_cons.mpr ⟨lw_p35, fun _ h => absurd h List.not_mem_nil⟩⟩⟩⟩
def lw_privs : List (MethodName × Nat) := lw_privs_1 ++ (lw_privs_2 ++ (lw_privs_3))
def lw_tbl : List Cond := k2_sels lw_privs ++ tables_1
theorem lw_privs_ok : ∀ q ∈ lw_privs, lw_okq q := by
  show ∀ q ∈ lw_privs_1 ++ (lw_privs_2 ++ (lw_privs_3)), lw_okq q
  exact List.forall_mem_append.mpr ⟨lw_r1, List.forall_mem_append.mpr ⟨lw_r2, lw_r3⟩⟩
-- ===== end of PART A; then your names; then what follows =====
end
section
/-! My own base: contracts over worlds as lists (a method that makes no cells), one row for entry, return, call. -/
/-- the words that stay, of all tables -/
def wG : List Cond := lw_tbl.filter goodWord
theorem wG_t {w : Cond} (i : Nat) (h : tables_1[i]? = some w) (g : goodWord w = true) : w ∈ wG := List.mem_filter.mpr ⟨List.mem_append_right _ (List.mem_of_getElem? h), g⟩
theorem wG_p {w : Cond} (i : Nat) (h : (k2_sels lw_privs)[i]? = some w) (g : goodWord w = true) : w ∈ wG := List.mem_filter.mpr ⟨List.mem_append_left _ (List.mem_of_getElem? h), g⟩
theorem wG_good {w : Cond} (h : w ∈ wG) : (w.onTables && w.keeps) = true ∨ ∃ ty, w = .arrayClass ty := good_of_word (List.mem_filter.mp h).2
theorem wG_GoodIn {w : Cond} (h : w ∈ wG) : GoodIn wG (w :: wG) := fun v hv => (List.mem_cons.mp hv).elim (fun e => by rw [e]; exact ⟨h, wG_good h⟩) (fun e => ⟨e, wG_good e⟩)
/-- the nest mates' links -/
def sm_N (U : State) : Prop := va_Nw (.methodLinkNest "ScanMill$Row" 40 ⟨"ScanMill", "isValue", "(I)Z"⟩ "ScanMill") U ∧ va_Nw (.methodLinkNest "ScanMill$Row" 43 ⟨"ScanMill", "isTarget", "(I)Z"⟩ "ScanMill") U ∧ va_Nw (.methodLinkNest "ScanMill$Liveness" 67 ⟨"ScanMill", "isValue", "(I)Z"⟩ "ScanMill") U ∧ va_Nw (.methodLinkNest "ScanMill$Places" 68 ⟨"ScanMill", "isValue", "(I)Z"⟩ "ScanMill") U
theorem sm_N.same {u U : State} (h : u.vm = U.vm) (hN : sm_N u) : sm_N U := ⟨hN.1.same rfl h, hN.2.1.same rfl h, hN.2.2.1.same rfl h, hN.2.2.2.same rfl h⟩
theorem sm_N.warm {s U : State} (hW : s.WarmedH U.vm) (hN : sm_N s) : sm_N U := ⟨va_Nw.warmM hW hN.1, va_Nw.warmM hW hN.2.1, va_Nw.warmM hW hN.2.2.1, va_Nw.warmM hW hN.2.2.2⟩
abbrev rmF (f lo : Nat) : Room := { frames := f, cells := 0, slots := 0, locals := lo }
abbrev sm_Pc (D : va_G) (cl : List vw_C) (tys : List (ClassId × FieldType)) (av : List Value) (ws : va_W) (sz : Nat) : Array Value → State → Prop :=
  va_Pc av (fun U => U.heap.size = sz ∧ va_P D cl ws U.heap ∧ va_K D cl tys U ∧ va_D (fun _ => True) ws ∧ sm_N U)
abbrev sm_B (D : va_G) (cl : List vw_C) (tys : List (ClassId × FieldType)) (A : Nat → Prop) (u : va_W) (t : State) : Prop := va_P D cl u t.heap ∧ va_K D cl tys t ∧ va_D A u
def sm_I (l : Launch) (y : MethodName) (cc : ByteArray) (maxL : Nat) (ret : Option FieldType) (rm : Room) (D : va_G) (cl : List vw_C) (tys : List (ClassId × FieldType)) (av : List Value) (ws : va_W) (post : Int32 → va_W → Prop) : Prop :=
  ∀ sz : Nat, Met l y (.code y cc maxL ret :: wG) rm (sm_Pc D cl tys av ws sz) (va_Qi post (sm_B D cl tys (va_A ws sz)) (va_A ws sz)) 0 0 (va_A ws sz)
def sm_V (l : Launch) (y : MethodName) (cc : ByteArray) (maxL : Nat) (ret : Option FieldType) (rm : Room) (D : va_G) (cl : List vw_C) (tys : List (ClassId × FieldType)) (av : List Value) (ws : va_W) (post : va_W → Prop) : Prop :=
  ∀ sz : Nat, Met l y (.code y cc maxL ret :: wG) rm (sm_Pc D cl tys av ws sz) (va_Qv post (sm_B D cl tys (va_A ws sz)) (va_A ws sz)) 0 0 (va_A ws sz)
theorem sm_I.at {l : Launch} {y : MethodName} {cc : ByteArray} {maxL : Nat} {ret : Option FieldType} {rm : Room} {D : va_G} {cl : List vw_C} {tys : List (ClassId × FieldType)} {av : List Value} {ws : va_W} {post : Int32 → va_W → Prop} (h : sm_I l y cc maxL ret rm D cl tys av ws post) (sz : Nat) : Met l y (.code y cc maxL ret :: wG) rm (sm_Pc D cl tys av ws sz) (va_Qi post (sm_B D cl tys (va_A ws sz)) (va_A ws sz)) 0 0 (va_A ws sz) := h sz
theorem sm_I.mk {l : Launch} {y : MethodName} {rm : Room} {D : va_G} {cl : List vw_C} {tys : List (ClassId × FieldType)} {av : List Value} {ws : va_W} {post : Int32 → va_W → Prop} {cc : ByteArray} {maxL : Nat} {ret : Option FieldType}
    (hy : plainName y.cls = true) (hlen : (lg_sl av).length ≤ maxL)
    (body : ∀ (p : Program) (e : Env) (s : State) (m : MethodId) (below : List Frame) (meth : Method) (c : Code) (A : Nat → Prop) (H : Heap) (locs : List Loc) (ls : Array Slot), p.tables.exec = Jvm.exec → c.code = cc → meth.sig.returnType = ret → (∀ x ∈ wG, x.before av.toArray s = true) → s.vm.findClass y.cls = some m.cls → meth.locks = false → c.maxLocals = maxL → meth.name = y.name → va_P D cl ws H → va_K D cl tys s → va_D A ws → (∀ q, s.heap.size ≤ q → A q) → va_S A s.heap H locs → sm_N s → lv_has ls maxL (lv_args 0 av) → W p l e rm s m av.toArray below meth c H locs 0 0 (MQ below (va_Qi post (sm_B D cl tys A) A) av.toArray s 0 0 A) (F0 m 0 ls [])) : sm_I l y cc maxL ret rm D cl tys av ws post := by
  intro sz
  refine Met.ofW (cc := cc) (maxL := maxL) (ret := ret) hy rfl ?_
  intro p e s m args below meth c s₁ B hml hv
  obtain ⟨rfl, hsz, hP, hK, hD0, hN⟩ := hv
  subst hsz
  have hl := lv_entry av (n := maxL) hlen
  rw [lg_entry_eq]
  exact body p e s m below meth c (va_A ws s.heap.size) s.heap [] _ B.exec B.bytes B.returns (fun x hx => atoms_spec (ws := .code y cc maxL ret :: wG) B.pre x (List.mem_cons_of_mem _ hx)) (findClass_of_methodNamed B.named) B.notSynchronized hml (name_of_methodNamed B.named B.method).1 hP hK (hD0.self (sz := s.heap.size)) (fun q h => Or.inr h) va_S.rf hN hl
theorem sm_V.at {l : Launch} {y : MethodName} {cc : ByteArray} {maxL : Nat} {ret : Option FieldType} {rm : Room} {D : va_G} {cl : List vw_C} {tys : List (ClassId × FieldType)} {av : List Value} {ws : va_W} {post : va_W → Prop} (h : sm_V l y cc maxL ret rm D cl tys av ws post) (sz : Nat) : Met l y (.code y cc maxL ret :: wG) rm (sm_Pc D cl tys av ws sz) (va_Qv post (sm_B D cl tys (va_A ws sz)) (va_A ws sz)) 0 0 (va_A ws sz) := h sz
theorem sm_V.mk {l : Launch} {y : MethodName} {rm : Room} {D : va_G} {cl : List vw_C} {tys : List (ClassId × FieldType)} {av : List Value} {ws : va_W} {post : va_W → Prop} {cc : ByteArray} {maxL : Nat} {ret : Option FieldType}
    (hy : plainName y.cls = true) (hlen : (lg_sl av).length ≤ maxL)
    (body : ∀ (p : Program) (e : Env) (s : State) (m : MethodId) (below : List Frame) (meth : Method) (c : Code) (A : Nat → Prop) (H : Heap) (locs : List Loc) (ls : Array Slot), p.tables.exec = Jvm.exec → c.code = cc → meth.sig.returnType = ret → (∀ x ∈ wG, x.before av.toArray s = true) → s.vm.findClass y.cls = some m.cls → meth.locks = false → c.maxLocals = maxL → meth.name = y.name → va_P D cl ws H → va_K D cl tys s → va_D A ws → (∀ q, s.heap.size ≤ q → A q) → va_S A s.heap H locs → sm_N s → lv_has ls maxL (lv_args 0 av) → W p l e rm s m av.toArray below meth c H locs 0 0 (MQ below (va_Qv post (sm_B D cl tys A) A) av.toArray s 0 0 A) (F0 m 0 ls [])) : sm_V l y cc maxL ret rm D cl tys av ws post := by
  intro sz
  refine Met.ofW (cc := cc) (maxL := maxL) (ret := ret) hy rfl ?_
  intro p e s m args below meth c s₁ B hml hv
  obtain ⟨rfl, hsz, hP, hK, hD0, hN⟩ := hv
  subst hsz
  have hl := lv_entry av (n := maxL) hlen
  rw [lg_entry_eq]
  exact body p e s m below meth c (va_A ws s.heap.size) s.heap [] _ B.exec B.bytes B.returns (fun x hx => atoms_spec (ws := .code y cc maxL ret :: wG) B.pre x (List.mem_cons_of_mem _ hx)) (findClass_of_methodNamed B.named) B.notSynchronized hml (name_of_methodNamed B.named B.method).1 hP hK (hD0.self (sz := s.heap.size)) (fun q h => Or.inr h) va_S.rf hN hl
theorem sm_blind {D : va_G} {cl : List vw_C} {tys : List (ClassId × FieldType)} {av : List Value} {ws : va_W} {sz : Nat} : FrameBlind (sm_Pc D cl tys av ws sz) := fun a U g mk q => by
  obtain ⟨q0, q1, qP, qK, qD, qN⟩ := q
  exact ⟨q0, q1, qP, va_K.moved (u := U) (U := U.calling g mk a) (Vm.Alike.refl U.vm) qK, qD, qN.same (u := U) (U := U.calling g mk a) rfl⟩
theorem sm_preS {s : State} {H : Heap} {D : va_G} {cl : List vw_C} {tys : List (ClassId × FieldType)} {A : Nat → Prop} {av : List Value} {ws wc : va_W} (hN : sm_N s) (hK : va_K D cl tys s) (hP : va_P D cl ws H) (hD : va_D A ws) (isC : List Nat) (hf : isC.filterMap (fun i => ws[i]?) = wc) (hC : isC.map (fun i => ws[i]?) = wc.map some) (hn : va_nd isC = true) : PreS s H (sm_Pc D cl tys av wc H.size) av :=
  ⟨sm_blind, fun U hU hW => ⟨rfl, by rw [hU], by rw [hU]; exact hP.sub isC hf, va_K.moved hW.alike hK, (hD.sub isC hn hC).weaken (fun _ _ _ _ => trivial), hN.warm hW⟩⟩
theorem sm_preV {s : State} {H : Heap} {D : va_G} {cl : List vw_C} {tys : List (ClassId × FieldType)} {A : Nat → Prop} {As : List Value} {ws wc : va_W} {b ci : Nat} {q : vw_C} {fs : List Value} (hN : sm_N s) (hK : va_K D cl tys s) (hP : va_P D cl ws H) (hD : va_D A ws) (isC : List Nat) (hf : isC.filterMap (fun i => ws[i]?) = wc) (hC : isC.map (fun i => ws[i]?) = wc.map some) (hn : va_nd isC = true) (q0 : Nat) (hc : cl[ci]? = some q) (he : ws[q0]? = some (b, .inr (ci, fs))) : PreV s H q.1 b (sm_Pc D cl tys (.ref b :: As) wc H.size) As :=
  ⟨sm_blind, va_recv hK hP hc he, fun U hU hW => ⟨rfl, by rw [hU], by rw [hU]; exact hP.sub isC hf, va_K.moved hW.alike hK, (hD.sub isC hn hC).weaken (fun _ _ _ _ => trivial), hN.warm hW⟩⟩
theorem sm_cB {R : Room} {s : State} {args : Array Value} {own : String} {index maxL : Nat} {y : MethodName} {bytes : ByteArray} {ret : Option FieldType} {rm : Room} (n : Nat) (ht : ∀ w ∈ wG, w.before args s = true) (hc : Cond.code y bytes maxL ret ∈ wG) (hini : Cond.initialized y.cls ∈ wG) (hl : Cond.methodLink own index y ∈ wG) (hrc : rm.cells = 0) (hrs : rm.slots = 0)
    (hd : y.cls ≠ "java/lang/invoke/MethodHandle" ∧ y.cls ≠ "java/lang/invoke/VarHandle" ∧ (parseMethodDescriptor y.desc).map (fun d => d.parameters.length) = some n) (hR : rm.frames + 1 ≤ R.frames ∧ 8 + (maxL + 11) + rm.locals ≤ R.locals) : CallB R s args own index y bytes maxL ret (.code y bytes maxL ret :: wG) rm 0 0 n :=
  callB_of n ht (wG_GoodIn hc) rfl hrc hrs (ht _ hini) (ht _ hl) hd hR
theorem sm_cV {R : Room} {s : State} {args : Array Value} {own C : String} {index maxL : Nat} {y : MethodName} {bytes : ByteArray} {ret : Option FieldType} {rm : Room} (n : Nat) (ht : ∀ w ∈ wG, w.before args s = true) (hc : Cond.code y bytes maxL ret ∈ wG) (hini : Cond.initialized y.cls ∈ wG) (hl : Cond.methodLink own index y ∈ wG) (hin : Cond.instanceMethod y ∈ wG) (hse : Cond.selects C y y ∈ wG) (hrc : rm.cells = 0) (hrs : rm.slots = 0)
    (hd : y.cls ≠ "java/lang/invoke/MethodHandle" ∧ y.cls ≠ "java/lang/invoke/VarHandle" ∧ (parseMethodDescriptor y.desc).map (fun d => d.parameters.length) = some n) (hR : rm.frames + 1 ≤ R.frames ∧ 8 + (maxL + 11) + rm.locals ≤ R.locals) : CallW R s args own C index y bytes maxL ret (.code y bytes maxL ret :: wG) rm 0 0 n :=
  ⟨sm_cB n ht hc hini hl hrc hrs hd hR, ht _ hin, ht _ hse⟩
theorem sm_cS {R : Room} {s : State} {args : Array Value} {own : String} {index maxL : Nat} {y : MethodName} {bytes : ByteArray} {ret : Option FieldType} {rm : Room} (n : Nat) (ht : ∀ w ∈ wG, w.before args s = true) (hc : Cond.code y bytes maxL ret ∈ wG) (hini : Cond.initialized y.cls ∈ wG) (hl : Cond.methodLink own index y ∈ wG) (hst : Cond.static y ∈ wG) (hrc : rm.cells = 0) (hrs : rm.slots = 0)
    (hd : y.cls ≠ "java/lang/invoke/MethodHandle" ∧ y.cls ≠ "java/lang/invoke/VarHandle" ∧ (parseMethodDescriptor y.desc).map (fun d => d.parameters.length) = some n) (hR : rm.frames + 1 ≤ R.frames ∧ 8 + (maxL + 11) + rm.locals ≤ R.locals) : CallB R s args own index y bytes maxL ret (.code y bytes maxL ret :: wG) rm 0 0 n ∧ (Cond.static y).before args s = true :=
  ⟨sm_cB n ht hc hini hl hrc hrs hd hR, ht _ hst⟩
theorem sm_cN {R : Room} {s : State} {args : Array Value} {own host : String} {index maxL : Nat} {y : MethodName} {bytes : ByteArray} {ret : Option FieldType} {rm : Room} (n : Nat) (ht : ∀ w ∈ wG, w.before args s = true) (hc : Cond.code y bytes maxL ret ∈ wG) (hini : Cond.initialized y.cls ∈ wG) (hl : va_Nw (.methodLinkNest own index y host) s) (hst : Cond.static y ∈ wG) (hrc : rm.cells = 0) (hrs : rm.slots = 0)
    (hd : y.cls ≠ "java/lang/invoke/MethodHandle" ∧ y.cls ≠ "java/lang/invoke/VarHandle" ∧ (parseMethodDescriptor y.desc).map (fun d => d.parameters.length) = some n) (hR : rm.frames + 1 ≤ R.frames ∧ 8 + (maxL + 11) + rm.locals ≤ R.locals) : va_CN R s args own index y host bytes maxL ret (.code y bytes maxL ret :: wG) rm 0 0 n ∧ (Cond.static y).before args s = true ∧ True :=
  ⟨va_cnB n ht (wG_GoodIn hc) rfl hrc hrs hl (ht _ hini) hd hR, ht _ hst, trivial⟩
section SMB
variable {p : Program} {l : Launch} {e : Env} {R : Room} {s : State} {m : MethodId} {args : Array Value} {below : List Frame} {meth : Method} {c : Code} {H : Heap} {locs : List Loc} {cells slots : Nat} {Q : State → Prop}
variable {cc : ByteArray} {pc : Nat} {ls : Array Slot} {rest st0 : List Value} {D : va_G} {cl : List vw_C} {A : Nat → Prop} {a : Nat} {tys : List (ClassId × FieldType)} {ws wc wr : va_W} {H0 : Heap} {av : Array Value}
theorem sm_re {x y : Int32} (h : x = y) (k : W p l e R s m args below meth c H locs cells slots Q (F0 m pc ls (.int y :: rest))) : W p l e R s m args below meth c H locs cells slots Q (F0 m pc ls (.int x :: rest)) := by rw [h]; exact k
theorem sm_goi {post : Int32 → va_W → Prop} (hr : va_Run p l e R s m args below meth c H locs cells slots 0 0 (F0 m pc ls st0) rest (va_Qi post (sm_B D cl tys (va_A wc H.size)) (va_A wc H.size) av) (va_A wc H.size)) (hP : va_P D cl ws H) (hD : va_D A ws) (hS : va_S A s.heap H locs) (hA : ∀ q, s.heap.size ≤ q → A q) (isC isR : List Nat) (hC : isC.map (fun i => ws[i]?) = wc.map some) (hR : isR.map (fun i => ws[i]?) = wr.map some) (hn : va_nd isR = true) (hdis : ∀ i ∈ isR, i ∉ isC)
    (kk : ∀ (r : Int32) (w1 : va_W) (H1 : Heap) (locs1 : List Loc), post r w1 → va_P D cl (wr ++ w1) H1 → va_D A (wr ++ w1) → va_S A s.heap H1 locs1 → W p l e R s m args below meth c H1 locs1 cells slots Q (F0 m (pc + 3) ls (.int r :: rest))) : W p l e R s m args below meth c H locs cells slots Q (F0 m pc ls st0) := by
  have hFc := va_free (wc := wc) hD hS hA isC hC
  refine va_calli hr hS (fun q _ h => hFc q h) hFc (fun r u t H1 locs1 ht hvm hw hB hz1 hk1 hS1 => ?_)
  obtain ⟨hP1, hK1, hD1⟩ := hB
  rw [ht] at hP1
  obtain ⟨hP2, hD2⟩ := va_join (wr := wr) (w1 := u) hP hD isC isR hC hR hn hdis hk1 hFc hP1 hD1
  exact kk r u H1 locs1 hw hP2 hD2 hS1
theorem sm_gov {post : va_W → Prop} (hr : va_Run p l e R s m args below meth c H locs cells slots 0 0 (F0 m pc ls st0) rest (va_Qv post (sm_B D cl tys (va_A wc H.size)) (va_A wc H.size) av) (va_A wc H.size)) (hP : va_P D cl ws H) (hD : va_D A ws) (hS : va_S A s.heap H locs) (hA : ∀ q, s.heap.size ≤ q → A q) (isC isR : List Nat) (hC : isC.map (fun i => ws[i]?) = wc.map some) (hR : isR.map (fun i => ws[i]?) = wr.map some) (hn : va_nd isR = true) (hdis : ∀ i ∈ isR, i ∉ isC)
    (kk : ∀ (w1 : va_W) (H1 : Heap) (locs1 : List Loc), post w1 → va_P D cl (wr ++ w1) H1 → va_D A (wr ++ w1) → va_S A s.heap H1 locs1 → W p l e R s m args below meth c H1 locs1 cells slots Q (F0 m (pc + 3) ls rest)) : W p l e R s m args below meth c H locs cells slots Q (F0 m pc ls st0) := by
  have hFc := va_free (wc := wc) hD hS hA isC hC
  refine va_callv hr hS (fun q _ h => hFc q h) hFc (fun u t H1 locs1 ht hvm hw hB hz1 hk1 hS1 => ?_)
  obtain ⟨hP1, hK1, hD1⟩ := hB
  rw [ht] at hP1
  obtain ⟨hP2, hD2⟩ := va_join (wr := wr) (w1 := u) hP hD isC isR hC hR hn hdis hk1 hFc hP1 hD1
  exact kk u H1 locs1 hw hP2 hD2 hS1
theorem sm_ri {post : Int32 → va_W → Prop} {v : Int32} (hexec : p.tables.exec = Jvm.exec) (hb : c.code = cc) (hr : meth.sig.returnType = some .int) (hlocks : meth.locks = false) (hK : va_K D cl tys s) (hP : va_P D cl ws H) (hD : va_D A ws) (hS : va_S A s.heap H locs) (hpost : post v ws) (hdg : decode cc pc = .ok (.ireturn, 1)) :
    W p l e R s m args below meth c H locs 0 0 (MQ below (va_Qi post (sm_B D cl tys A) A) args s 0 0 A) (F0 m pc ls [.int v]) :=
  W.iret hexec hb hr (fun t ht hW => ⟨⟨v, ws, rfl, hpost, by rw [ht]; exact hP, va_K.moved hW.alike hK, hD⟩, hS.F ht⟩) hS.2.2 hdg (hlocks := hlocks)
theorem sm_rz {post : Int32 → va_W → Prop} {v : Int32} (hexec : p.tables.exec = Jvm.exec) (hb : c.code = cc) (hr : meth.sig.returnType = some .boolean) (hlocks : meth.locks = false) (hK : va_K D cl tys s) (hP : va_P D cl ws H) (hD : va_D A ws) (hS : va_S A s.heap H locs) (h01 : v = 0 ∨ v = 1) (hpost : post v ws) (hdg : decode cc pc = .ok (.ireturn, 1)) :
    W p l e R s m args below meth c H locs 0 0 (MQ below (va_Qi post (sm_B D cl tys A) A) args s 0 0 A) (F0 m pc ls [.int v]) :=
  W.zret (ty := .boolean) hexec hb hr (by rcases h01 with h | h <;> subst h <;> rfl) (fun t ht hW => ⟨⟨v, ws, rfl, hpost, by rw [ht]; exact hP, va_K.moved hW.alike hK, hD⟩, hS.F ht⟩) hS.2.2 hdg (hlocks := hlocks)
theorem sm_rv {post : va_W → Prop} (hexec : p.tables.exec = Jvm.exec) (hb : c.code = cc) (hr : meth.sig.returnType = none) (hlocks : meth.locks = false) (hK : va_K D cl tys s) (hP : va_P D cl ws H) (hD : va_D A ws) (hS : va_S A s.heap H locs) (hpost : post ws) (hdg : decode cc pc = .ok (.return_, 1)) :
    W p l e R s m args below meth c H locs 0 0 (MQ below (va_Qv post (sm_B D cl tys A) A) args s 0 0 A) (F0 m pc ls []) :=
  W.vret hexec hb hr (fun t ht hW => ⟨⟨ws, rfl, hpost, by rw [ht]; exact hP, va_K.moved hW.alike hK, hD⟩, hS.F ht⟩) hS.2.2 hdg (hlocks := hlocks)
theorem sm_iald (hexec : p.tables.exec = Jvm.exec) (hb : c.code = cc) (hK : va_K D cl tys s) (hP : va_P D cl ws H) (q0 t0 : Nat) {cA : ClassId} {n : Nat} {f : Nat → Int32} (ha : ws[q0]? = some (a, .inl (cA, n, .inl f))) (ht : tys[t0]? = some (cA, .int)) {i : Int32} {j : Nat} (hin : vp_in i n) (hj : i.toNatClampNeg = j) (hdg : decode cc pc = .ok (.iaload, 1))
    (kk : W p l e R s m args below meth c H locs cells slots Q (F0 m (pc + 1) ls (.int (f j) :: rest))) : W p l e R s m args below meth c H locs cells slots Q (F0 m pc ls (.int i :: .ref a :: rest)) :=
  va_iald hexec hb hK hP q0 t0 ha ht hin hdg (by rw [hj]; exact kk)
theorem sm_zald (hexec : p.tables.exec = Jvm.exec) (hb : c.code = cc) (hK : va_K D cl tys s) (hP : va_P D cl ws H) (q0 t0 : Nat) {cA : ClassId} {n : Nat} {f : Nat → Int32} (ha : ws[q0]? = some (a, .inl (cA, n, .inl f))) (ht : tys[t0]? = some (cA, .boolean)) {i : Int32} {j : Nat} (hin : vp_in i n) (hj : i.toNatClampNeg = j) (hdg : decode cc pc = .ok (.baload, 1))
    (kk : W p l e R s m args below meth c H locs cells slots Q (F0 m (pc + 1) ls (.int (f j) :: rest))) : W p l e R s m args below meth c H locs cells slots Q (F0 m pc ls (.int i :: .ref a :: rest)) :=
  va_zald hexec hb hK hP q0 t0 ha ht hin hdg (by rw [hj]; exact kk)
theorem sm_iast (hexec : p.tables.exec = Jvm.exec) (hb : c.code = cc) (hK : va_K D cl tys s) (hP : va_P D cl ws H) (hD : va_D A ws) (hS : va_S A H0 H locs) (q0 t0 : Nat) {cA : ClassId} {n : Nat} {f : Nat → Int32} (ha : ws[q0]? = some (a, .inl (cA, n, .inl f))) (ht : tys[t0]? = some (cA, .int)) {i x : Int32} {j : Nat} (hin : vp_in i n) (hj : i.toNatClampNeg = j) (hdg : decode cc pc = .ok (.iastore, 1))
    (kk : ∀ (H1 : Heap) (locs1 : List Loc), va_P D cl (ws.set q0 (a, .inl (cA, n, .inl (upd f j x)))) H1 → va_D A (ws.set q0 (a, .inl (cA, n, .inl (upd f j x)))) → va_S A H0 H1 locs1 → W p l e R s m args below meth c H1 locs1 cells slots Q (F0 m (pc + 1) ls rest)) : W p l e R s m args below meth c H locs cells slots Q (F0 m pc ls (.int x :: .int i :: .ref a :: rest)) :=
  va_iast hexec hb hK hP hD hS q0 t0 ha ht hin hdg (by rw [hj]; exact kk)
theorem sm_nz {x : Int32} (h : x = 0 ∨ x = 1) : vp_nar .boolean x = x := by
  rcases h with h | h <;> subst h <;> decide
theorem sm_zast (hexec : p.tables.exec = Jvm.exec) (hb : c.code = cc) (hK : va_K D cl tys s) (hP : va_P D cl ws H) (hD : va_D A ws) (hS : va_S A H0 H locs) (q0 t0 : Nat) {cA : ClassId} {n : Nat} {f : Nat → Int32} (ha : ws[q0]? = some (a, .inl (cA, n, .inl f))) (ht : tys[t0]? = some (cA, .boolean)) {i x : Int32} {j : Nat} (hin : vp_in i n) (hj : i.toNatClampNeg = j) (h01 : x = 0 ∨ x = 1) (hdg : decode cc pc = .ok (.bastore, 1))
    (kk : ∀ (H1 : Heap) (locs1 : List Loc), va_P D cl (ws.set q0 (a, .inl (cA, n, .inl (upd f j x)))) H1 → va_D A (ws.set q0 (a, .inl (cA, n, .inl (upd f j x)))) → va_S A H0 H1 locs1 → W p l e R s m args below meth c H1 locs1 cells slots Q (F0 m (pc + 1) ls rest)) : W p l e R s m args below meth c H locs cells slots Q (F0 m pc ls (.int x :: .int i :: .ref a :: rest)) :=
  va_zast hexec hb hK hP hD hS q0 t0 ha ht hin hdg (by rw [hj, sm_nz h01]; exact kk)
/-- where a tableswitch goes -/
def sm_tabT (pc : Nat) (dflt lo hi : Int) (offs : Array Int) (x : Int32) : Option Int := if x.toInt < lo ∨ hi < x.toInt then some ((pc : Int) + dflt) else (offs[(x.toInt - lo).toNat]?).map (fun o => (pc : Int) + o)
theorem sm_tab (hexec : p.tables.exec = Jvm.exec) (hb : c.code = cc) {dflt lo hi : Int} {offs : Array Int} {len : Nat} {x : Int32} {tgt : Nat} (hdg : decode cc pc = .ok (.tableswitch dflt lo hi offs, len)) (h : sm_tabT pc dflt lo hi offs x = some (tgt : Int))
    (k : W p l e R s m args below meth c H locs cells slots Q (F0 m tgt ls rest)) : W p l e R s m args below meth c H locs cells slots Q (F0 m pc ls (.int x :: rest)) := by
  unfold sm_tabT at h
  by_cases g : x.toInt < lo ∨ hi < x.toInt
  · rw [if_pos g] at h
    exact lv_tableOut hexec hb hdg g (Option.some.inj h) k
  · rw [if_neg g] at h
    cases ho : offs[(x.toInt - lo).toNat]? with
    | none => rw [ho] at h; cases h
    | some o =>
      rw [ho] at h
      exact lv_tableIn hexec hb hdg (fun z => g (Or.inl z)) (fun z => g (Or.inr z)) ho (Option.some.inj h) k
end SMB
def sm_nk (x : Int32) : List Int32 → Prop
  | [] => True
  | k :: ks => x ≠ k ∧ sm_nk x ks
theorem sm_nk_mem {x : Int32} : ∀ {ks : List Int32}, sm_nk x ks → ∀ k ∈ ks, x ≠ k
  | [], _, _, h => by cases h
  | k :: ks, h, k', h' => by
    rcases List.mem_cons.mp h' with e | e
    · rw [e]; exact h.1
    · exact sm_nk_mem h.2 k' e
theorem sm_tabD {pc : Nat} {dflt lo hi : Int} {offs : Array Int} {x : Int32} {tgt : Nat} (keys : List Int32) (hx : sm_nk x keys) (hall : ∀ i ∈ List.range (hi - lo + 1).toNat, (lo + (i : Int)) ∈ keys.map (fun k => k.toInt) ∨ offs[i]? = some dflt) (ht : (pc : Int) + dflt = (tgt : Int)) : sm_tabT pc dflt lo hi offs x = some (tgt : Int) := by
  unfold sm_tabT
  by_cases g : x.toInt < lo ∨ hi < x.toInt
  · rw [if_pos g, ht]
  · rw [if_neg g]
    have g1 : ¬ x.toInt < lo := fun z => g (Or.inl z)
    have g2 : ¬ hi < x.toInt := fun z => g (Or.inr z)
    rcases hall (x.toInt - lo).toNat (List.mem_range.mpr (by omega)) with q | q
    · obtain ⟨k, hk, e⟩ := List.mem_map.mp q
      have e2 : k.toInt = x.toInt := by
        have : ((x.toInt - lo).toNat : Int) = x.toInt - lo := Int.toNat_of_nonneg (by omega)
        rw [e, this]; omega
      exact absurd (Int32.toInt_inj.mp e2).symm (sm_nk_mem hx k hk)
    · rw [q]; simp only [Option.map_some, ht]
/-- a Bool as the machine has it -/
def b2i (b : Bool) : Int32 := if b then 1 else 0
theorem b2i_01 (b : Bool) : b2i b = 0 ∨ b2i b = 1 := by cases b <;> decide
theorem b2i_t : b2i true = 1 := rfl
theorem b2i_f : b2i false = 0 := rfl
theorem b2i_eq0 {b : Bool} (h : b2i b = 0) : b = false := by cases b <;> first | rfl | exact absurd h (by decide)
theorem b2i_ne0 {b : Bool} (h : ¬ b2i b = 0) : b = true := by cases b <;> first | rfl | exact absurd rfl h
/-- in range, as a Bool -/
def inB (x : Int32) (n : Nat) : Bool := decide (0 ≤ x.toInt ∧ x.toInt < (n : Int))
theorem sm_inB {x : Int32} {n : Nat} (h : inB x n = true) : vp_in x n := vp_in_iff.mpr (of_decide_eq_true h)
theorem inB_of {x : Int32} {n : Nat} (h : vp_in x n) : inB x n = true := decide_eq_true (vp_in_iff.mp h)
theorem inB_mono {x : Int32} {n k : Nat} (h : inB x n = true) (hk : n ≤ k) : inB x k = true := by
  have := of_decide_eq_true h
  exact decide_eq_true (by omega)
theorem inB_nI {i n : Nat} (hi : i < 2 ^ 31) : inB (nI i) n = decide (i < n) := by
  unfold inB; rw [nI_toInt hi]; congr 1; simp only [eq_iff_iff]; omega
theorem inB_j {x : Int32} {n : Nat} (h : inB x n = true) (hn : n ≤ 1000) : ∃ j, j < n ∧ x = nI j := vp_in_of (sm_inB h) (by omega)
theorem in_ge {v M : Int32} {n : Nat} (hM : M.toInt = (n : Int)) (h0 : ¬ v < 0) (h1 : ¬ M ≤ v) : inB v n = true := by
  rw [Int32.lt_iff_toInt_lt, Int32.toInt_zero] at h0
  rw [Int32.le_iff_toInt_le] at h1
  exact decide_eq_true (by omega)
theorem in_lo {v : Int32} {n : Nat} (h : v < 0) : inB v n = false := by
  rw [Int32.lt_iff_toInt_lt, Int32.toInt_zero] at h
  exact decide_eq_false (by omega)
theorem in_hi {v M : Int32} {n : Nat} (hM : M.toInt = (n : Int)) (h : M ≤ v) : inB v n = false := by
  rw [Int32.le_iff_toInt_le] at h
  exact decide_eq_false (by omega)
theorem in_gt {v M : Int32} {n : Nat} (hM : M.toInt + 1 = (n : Int)) (h0 : ¬ v < 0) (h1 : ¬ M < v) : inB v n = true := by
  rw [Int32.lt_iff_toInt_lt, Int32.toInt_zero] at h0
  rw [Int32.lt_iff_toInt_lt] at h1
  exact decide_eq_true (by omega)
theorem in_hg {v M : Int32} {n : Nat} (hM : M.toInt + 1 = (n : Int)) (h : M < v) : inB v n = false := by
  rw [Int32.lt_iff_toInt_lt] at h
  exact decide_eq_false (by omega)
theorem sm_dec (x : Int32) : x + Int32.ofInt (-1) = x - 1 := by
  rw [Int32.sub_eq_add_neg]; rfl
theorem sm_pred {j : Nat} (h : ¬ nI j - 1 < 0) : ∃ i, j = i + 1 := by
  cases j with
  | zero => exact absurd (by decide) h
  | succ i => exact ⟨i, rfl⟩
theorem sm_pred0 {j : Nat} (hj : j < 2 ^ 31) (h : nI j - 1 < 0) : j = 0 := by
  cases j with
  | zero => rfl
  | succ i => rw [nI_pred] at h; exact absurd h (nI_pos (by omega))
theorem sm_nb {x : Int32} (h : x = 0 ∨ x = 1) : narrow .boolean (.int x) = .int x := by rcases h with h | h <;> subst h <;> rfl
end
section
/-! Pure words for the class: the row of ops, liveness. -/
def kA (n : Nat) (fk : Nat → Int32) (k : Int32) : Int32 := if inB k n = true then fk k.toNatClampNeg else 11
def nA (n : Nat) (fb : Nat → Int32) (k : Int32) : Int32 := if inB k n = true then fb k.toNatClampNeg else 0
def sA (n : Nat) (fk fa : Nat → Int32) (k : Int32) : Int32 := if kA n fk k = 0 ∨ kA n fk k = 1 ∨ kA n fk k = 2 ∨ kA n fk k = 3 ∨ kA n fk k = 4 ∨ kA n fk k = 5 ∨ kA n fk k = 6 ∨ kA n fk k = 9 then fa k.toNatClampNeg else -1
def lA (n : Nat) (fk fa fb : Nat → Int32) (k : Int32) : Int32 := if kA n fk k = 1 ∨ kA n fk k = 2 ∨ kA n fk k = 3 ∨ kA n fk k = 4 ∨ kA n fk k = 5 ∨ kA n fk k = 6 then fb k.toNatClampNeg else if kA n fk k = 8 ∨ kA n fk k = 10 then fa k.toNatClampNeg else -1
def rA (n : Nat) (fk fc : Nat → Int32) (k : Int32) : Int32 := if kA n fk k = 1 ∨ kA n fk k = 2 ∨ kA n fk k = 3 ∨ kA n fk k = 4 ∨ kA n fk k = 5 then fc k.toNatClampNeg else -1
def tA (n : Nat) (fk fa fb : Nat → Int32) (k : Int32) : Int32 := if kA n fk k = 7 then fa k.toNatClampNeg else if kA n fk k = 8 then fb k.toNatClampNeg else -1
/-- a kind other than 11 is that of an op that there is -/
theorem kA_in {n : Nat} {fk : Nat → Int32} {k : Int32} (h : kA n fk k ≠ 11) : inB k n = true := by
  unfold kA at h
  by_cases g : inB k n = true
  · exact g
  · rw [if_neg g] at h; exact absurd rfl h
theorem kA_vp {n : Nat} {fk : Nat → Int32} {k : Int32} (hn : n ≤ 60) (h : kA n fk k ≠ 11) : vp_in k 60 := sm_inB (inB_mono (kA_in h) hn)
def okOp (k a b c : Int32) : Bool :=
  if k = 0 ∨ k = 9 ∨ k = 10 then inB a 24
  else if k = 1 ∨ k = 2 ∨ k = 3 ∨ k = 4 ∨ k = 5 then inB a 24 && inB b 24 && inB c 24
  else if k = 6 then inB a 24 && inB b 24
  else if k = 7 then inB a 61
  else if k = 8 then inB a 24 && inB b 61
  else decide (k = 11)
/-- liveness: a row of masks -/
def sH (ff : Nat → Int32) (k : Int32) : Int32 := if inB k 61 = true then ff k.toNatClampNeg else 0
def bitV (v : Int32) : Int32 := if inB v 24 = true then 1 <<< (v &&& 31) else 0
def hasB (ff : Nat → Int32) (k v : Int32) : Bool := decide (¬ sH ff k &&& bitV v = 0)
def sBh (n : Nat) (fk fa fb ff : Nat → Int32) (k : Int32) : Int32 :=
  if kA n fk k = 7 then sH ff (tA n fk fa fb k)
  else if kA n fk k = 8 then sH ff (tA n fk fa fb k) ||| sH ff (k + 1)
  else if kA n fk k = 11 then 0
  else sH ff (k + 1)
def fnd (n : Nat) (fk fa fb fc ff : Nat → Int32) (k : Int32) : Int32 := (bitV (lA n fk fa fb k) ||| bitV (rA n fk fc k)) ||| (sBh n fk fa fb ff k &&& (bitV (sA n fk fa k) ^^^ (-1)))
/-- one sweep from op j - 1 down, with what has changed so far -/
def swp (n : Nat) (fk fa fb fc : Nat → Int32) : Nat → (Nat → Int32) → Int32 → (Nat → Int32) × Int32
  | 0, ff, ch => (ff, ch)
  | j + 1, ff, ch => if fnd n fk fa fb fc ff (nI j) = ff j then swp n fk fa fb fc j ff ch else swp n fk fa fb fc j (upd ff j (fnd n fk fa fb fc ff (nI j))) 1
/-- the sweeps: so many passes are left -/
def flw (n : Nat) (fk fa fb fc : Nat → Int32) : Nat → (Nat → Int32) → Int32 → (Nat → Int32)
  | 0, ff, _ => ff
  | q + 1, ff, ch => if ch = 0 then ff else flw n fk fa fb fc q (swp n fk fa fb fc n ff 0).1 (swp n fk fa fb fc n ff 0).2
end
section
section SML
variable {p : Program} {l : Launch} {e : Env} {R : Room} {s : State} {m : MethodId} {args : Array Value} {below : List Frame} {meth : Method} {c : Code} {H : Heap} {locs : List Loc} {cells slots : Nat} {Q : State → Prop}
variable {cc : ByteArray} {pc : Nat} {ls : Array Slot} {rest : List Value}
theorem sm_look (hexec : p.tables.exec = Jvm.exec) (hb : c.code = cc) {dflt : Int} {ps : Array (Int × Int)} {len : Nat} {x : Int32} {tgt : Nat} (hdg : decode cc pc = .ok (.lookupswitch dflt ps, len)) (h : (ps.toList.zip (ps.toList.drop 1)).all (fun (a, next) => a.1 < next.1) = true ∧ (pc : Int) + Op.lookupswitch.offset ps.toList dflt x.toInt = (tgt : Int))
    (k : W p l e R s m args below meth c H locs cells slots Q (F0 m tgt ls rest)) : W p l e R s m args below meth c H locs cells slots Q (F0 m pc ls (.int x :: rest)) :=
  lv_lookup hexec hb hdg h.1 rfl h.2 k
end SML
theorem sm_lookN {x : Int32} {dflt : Int} : ∀ (ps : List (Int × Int)) (keys : List Int32), sm_nk x keys → (∀ q ∈ ps, q.1 ∈ keys.map (fun k => k.toInt)) → Op.lookupswitch.offset ps dflt x.toInt = dflt
  | [], _, _, _ => rfl
  | (a, o) :: r, keys, hx, hall => by
    show (if a = x.toInt then o else Op.lookupswitch.offset r dflt x.toInt) = dflt
    have hne : a ≠ x.toInt := by
      intro e
      obtain ⟨k, hk, ek⟩ := List.mem_map.mp (hall (a, o) List.mem_cons_self)
      exact sm_nk_mem hx k hk (Int32.toInt_inj.mp (ek.trans e)).symm
    rw [if_neg hne]
    exact sm_lookN r keys hx fun q hq => hall q (List.mem_cons_of_mem _ hq)
theorem sm_lookD {pc : Nat} {dflt : Int} {ps : Array (Int × Int)} {x : Int32} {tgt : Nat} (keys : List Int32) (hx : sm_nk x keys) (hall : (ps.toList.zip (ps.toList.drop 1)).all (fun (a, next) => a.1 < next.1) = true ∧ ∀ q ∈ ps.toList, q.1 ∈ keys.map (fun k => k.toInt)) (ht : (pc : Int) + dflt = (tgt : Int)) : (ps.toList.zip (ps.toList.drop 1)).all (fun (a, next) => a.1 < next.1) = true ∧ (pc : Int) + Op.lookupswitch.offset ps.toList dflt x.toInt = (tgt : Int) :=
  ⟨hall.1, by rw [sm_lookN ps.toList keys hx hall.2]; exact ht⟩
theorem sm_cell {cA : ClassId} {n : Nat} {g f : Nat → Int32} (h : ∀ j, j < n → g j = f j) : vp_cell cA (n, .inl g) = vp_cell cA (n, .inl f) := by
  show arrV cA n (fun j => .int (g j)) = arrV cA n (fun j => .int (f j))
  unfold arrV
  congr 1
  apply Array.ext
  · simp
  · intro i h1 h2
    simp only [Array.getElem_ofFn]
    rw [h i (by simpa using h1)]
theorem sm_Pcong {D : va_G} {cl : List vw_C} {cA : ClassId} {n x : Nat} {g f : Nat → Int32} {H : Heap} (h : ∀ j, j < n → g j = f j) (hP : va_P D cl [(x, .inl (cA, n, .inl g))] H) : va_P D cl [(x, .inl (cA, n, .inl f))] H := by
  intro k q hq
  cases k with
  | zero =>
    cases hq
    have h1 : H[x]? = some (vp_cell cA (n, .inl g)) := hP 0 _ rfl
    show H[x]? = some (vp_cell cA (n, .inl f))
    rw [h1, sm_cell h]
  | succ k => simp at hq
theorem sm_Dcong {A : Nat → Prop} {cA : ClassId} {n x : Nat} {g f : Nat → Int32} (hD : va_D A [(x, .inl (cA, n, .inl g))]) : va_D A [(x, .inl (cA, n, .inl f))] := by
  refine ⟨fun i j p q h1 h2 _ => ?_, fun k q hq => ?_⟩
  · cases i with
    | zero => cases j with
      | zero => rfl
      | succ j => simp at h2
    | succ i => simp at h1
  · cases k with
    | zero => cases hq; exact hD.2 0 (x, .inl (cA, n, .inl g)) rfl
    | succ k => simp at hq
theorem sm_fillstep {gg : Nat → Int32} {u : Int32} {i : Nat} (h : ∀ j, j < i → gg j = u) : ∀ j, j < i + 1 → upd gg i u j = u := by
  intro j hj
  by_cases e : j = i
  · subst e; exact pk_us
  · rw [pk_un e]; exact h j (by omega)
end
section
/-! Liveness as such, for one value: ops k < n with kinds kd, targets tg; rd, st: does op k read, set the value. -/
def li_nx (kd : Nat → Int32) (tg : Nat → Nat) (g : Nat → Bool) (k : Nat) : Bool := if kd k = 7 then g (tg k) else if kd k = 8 then g (tg k) || g (k + 1) else if kd k = 11 then false else g (k + 1)
def li_stp (n : Nat) (kd : Nat → Int32) (tg : Nat → Nat) (rd st : Nat → Bool) (g : Nat → Bool) (k : Nat) : Bool := decide (k < n) && (rd k || (li_nx kd tg g k && !st k))
def li_L (n : Nat) (kd : Nat → Int32) (tg : Nat → Nat) (rd st : Nat → Bool) : Nat → Nat → Bool
  | 0, _ => false
  | i + 1, k => li_stp n kd tg rd st (li_L n kd tg rd st i) k
/-- live: by a way of any length -/
def li_Live (n : Nat) (kd : Nat → Int32) (tg : Nat → Nat) (rd st : Nat → Bool) (k : Nat) : Prop := ∃ i, li_L n kd tg rd st i k = true
section LVP
variable {n : Nat} {kd : Nat → Int32} {tg : Nat → Nat} {rd st : Nat → Bool}
theorem li_nx_mono {g g' : Nat → Bool} (h : ∀ k, g k = true → g' k = true) (k : Nat) : li_nx kd tg g k = true → li_nx kd tg g' k = true := by
  unfold li_nx
  by_cases h7 : kd k = 7
  · rw [if_pos h7, if_pos h7]; exact h _
  · rw [if_neg h7, if_neg h7]
    by_cases h8 : kd k = 8
    · rw [if_pos h8, if_pos h8]
      intro z
      rcases Bool.or_eq_true_iff.mp z with q | q
      · exact Bool.or_eq_true_iff.mpr (Or.inl (h _ q))
      · exact Bool.or_eq_true_iff.mpr (Or.inr (h _ q))
    · rw [if_neg h8, if_neg h8]
      by_cases h11 : kd k = 11
      · rw [if_pos h11, if_pos h11]; exact id
      · rw [if_neg h11, if_neg h11]; exact h _
theorem li_stp_iff {g : Nat → Bool} {k : Nat} : li_stp n kd tg rd st g k = true ↔ k < n ∧ (rd k = true ∨ (li_nx kd tg g k = true ∧ st k = false)) := by
  unfold li_stp
  simp only [Bool.and_eq_true, decide_eq_true_eq, Bool.or_eq_true, Bool.not_eq_true']
theorem li_stp_mono {g g' : Nat → Bool} (h : ∀ k, g k = true → g' k = true) (k : Nat) (z : li_stp n kd tg rd st g k = true) : li_stp n kd tg rd st g' k = true := by
  obtain ⟨a, b⟩ := li_stp_iff.mp z
  refine li_stp_iff.mpr ⟨a, ?_⟩
  rcases b with b | b
  · exact Or.inl b
  · exact Or.inr ⟨li_nx_mono h k b.1, b.2⟩
theorem li_L_mono (i : Nat) : ∀ k, li_L n kd tg rd st i k = true → li_L n kd tg rd st (i + 1) k = true := by
  induction i with
  | zero => intro k z; exact absurd z (by simp [li_L])
  | succ i ih => intro k z; exact li_stp_mono ih k z
theorem li_L_le {i j : Nat} (h : i ≤ j) : ∀ k, li_L n kd tg rd st i k = true → li_L n kd tg rd st j k = true := by
  induction h with
  | refl => intro k z; exact z
  | step _ ih => intro k z; exact li_L_mono _ k (ih k z)
/-- what is closed under a step holds all of it -/
theorem li_fix {g : Nat → Bool} (h : ∀ k, li_stp n kd tg rd st g k = true → g k = true) (i : Nat) : ∀ k, li_L n kd tg rd st i k = true → g k = true := by
  induction i with
  | zero => intro k z; exact absurd z (by simp [li_L])
  | succ i ih => intro k z; exact h k (li_stp_mono ih k z)
theorem li_fixL {g : Nat → Bool} (h : ∀ k, li_stp n kd tg rd st g k = true → g k = true) {k : Nat} (z : li_Live n kd tg rd st k) : g k = true := z.elim fun i hi => li_fix h i k hi
theorem li_Live_lt {k : Nat} (z : li_Live n kd tg rd st k) : k < n := by
  obtain ⟨i, hi⟩ := z
  cases i with
  | zero => exact absurd hi (by simp [li_L])
  | succ i => exact (li_stp_iff.mp hi).1
theorem li_Live_step {g : Nat → Bool} (h : ∀ k, g k = true → li_Live n kd tg rd st k) {k : Nat} (z : li_stp n kd tg rd st g k = true) : li_Live n kd tg rd st k := by
  obtain ⟨a, b⟩ := li_stp_iff.mp z
  rcases b with b | ⟨b, b2⟩
  · exact ⟨1, li_stp_iff.mpr ⟨a, Or.inl b⟩⟩
  · have key : ∃ i, li_nx kd tg (li_L n kd tg rd st i) k = true := by
      unfold li_nx at b ⊢
      by_cases h7 : kd k = 7
      · rw [if_pos h7] at b
        obtain ⟨i, hi⟩ := h _ b
        exact ⟨i, by rw [if_pos h7]; exact hi⟩
      · rw [if_neg h7] at b
        by_cases h8 : kd k = 8
        · rw [if_pos h8] at b
          rcases Bool.or_eq_true_iff.mp b with q | q
          · obtain ⟨i, hi⟩ := h _ q
            exact ⟨i, by rw [if_neg h7, if_pos h8]; exact Bool.or_eq_true_iff.mpr (Or.inl hi)⟩
          · obtain ⟨i, hi⟩ := h _ q
            exact ⟨i, by rw [if_neg h7, if_pos h8]; exact Bool.or_eq_true_iff.mpr (Or.inr hi)⟩
        · rw [if_neg h8] at b
          by_cases h11 : kd k = 11
          · rw [if_pos h11] at b; exact absurd b (by decide)
          · rw [if_neg h11] at b
            obtain ⟨i, hi⟩ := h _ b
            exact ⟨i, by rw [if_neg h7, if_neg h8, if_neg h11]; exact hi⟩
    obtain ⟨i, hi⟩ := key
    exact ⟨i + 1, li_stp_iff.mpr ⟨a, Or.inr ⟨hi, b2⟩⟩⟩
end LVP
/-- how many below n -/
def cnB (g : Nat → Bool) : Nat → Nat
  | 0 => 0
  | n + 1 => cnB g n + (if g n = true then 1 else 0)
theorem cnB_le (g : Nat → Bool) (n : Nat) : cnB g n ≤ n := by
  induction n with
  | zero => exact Nat.le_refl 0
  | succ n ih =>
    show cnB g n + _ ≤ n + 1
    by_cases h : g n = true
    · rw [if_pos h]; omega
    · rw [if_neg h]; omega
theorem cnB_mono {g g' : Nat → Bool} (h : ∀ k, g k = true → g' k = true) (n : Nat) : cnB g n ≤ cnB g' n := by
  induction n with
  | zero => exact Nat.le_refl 0
  | succ n ih =>
    show cnB g n + _ ≤ cnB g' n + _
    by_cases h1 : g n = true
    · rw [if_pos h1, if_pos (h n h1)]; omega
    · rw [if_neg h1]; omega
theorem cnB_lt {g g' : Nat → Bool} (h : ∀ k, g k = true → g' k = true) {k : Nat} (h1 : g' k = true) (h2 : ¬ g k = true) : ∀ n, k < n → cnB g n < cnB g' n := by
  intro n
  induction n with
  | zero => intro z; exact absurd z (Nat.not_lt_zero _)
  | succ n ih =>
    intro z
    show cnB g n + _ < cnB g' n + _
    by_cases e : k = n
    · subst e
      rw [if_pos h1, if_neg h2]
      have := cnB_mono h k
      omega
    · have := ih (by omega)
      by_cases h3 : g n = true
      · rw [if_pos h3, if_pos (h n h3)]; omega
      · rw [if_neg h3]; omega
section LVQ
variable {n : Nat} {kd : Nat → Int32} {tg : Nat → Nat} {rd st : Nat → Bool}
theorem li_stab (i : Nat) : (∃ j, j ≤ i ∧ ∀ k, li_L n kd tg rd st (j + 1) k = true → li_L n kd tg rd st j k = true) ∨ i ≤ cnB (li_L n kd tg rd st i) n := by
  induction i with
  | zero => exact Or.inr (Nat.zero_le _)
  | succ i ih =>
    rcases ih with ⟨j, hj, h⟩ | h
    · exact Or.inl ⟨j, by omega, h⟩
    · by_cases q : ∀ k, li_L n kd tg rd st (i + 1) k = true → li_L n kd tg rd st i k = true
      · exact Or.inl ⟨i, by omega, q⟩
      · obtain ⟨k, hk⟩ := Classical.not_forall.mp q
        have hk1 : li_L n kd tg rd st (i + 1) k = true := Classical.byContradiction fun z => hk fun y => absurd y z
        have hk2 : ¬ li_L n kd tg rd st i k = true := fun z => hk fun _ => z
        have := cnB_lt (li_L_mono i) hk1 hk2 n (li_stp_iff.mp hk1).1
        exact Or.inr (by omega)
/-- after more steps than there are ops nothing new comes -/
theorem li_L_all {N : Nat} (hN : n < N) {k : Nat} (z : li_Live n kd tg rd st k) : li_L n kd tg rd st N k = true := by
  rcases li_stab (n := n) (kd := kd) (tg := tg) (rd := rd) (st := st) N with ⟨j, hj, h⟩ | h
  · exact li_L_le hj k (li_fixL (g := li_L n kd tg rd st j) h z)
  · exact absurd (Nat.le_trans h (cnB_le _ n)) (by omega)
end LVQ
end
section
/-! The class's masks hold liveness. (bt and its rows: begun as kit/laws/BITS.to-paste.) -/
def bt (x : Int32) (i : Nat) : Bool := x.toBitVec.getLsbD i
theorem b_or (x y : Int32) (i : Nat) : bt (x ||| y) i = (bt x i || bt y i) := by unfold bt; rw [Int32.toBitVec_or, BitVec.getLsbD_or]
theorem b_and (x y : Int32) (i : Nat) : bt (x &&& y) i = (bt x i && bt y i) := by unfold bt; rw [Int32.toBitVec_and, BitVec.getLsbD_and]
theorem b_xor (x y : Int32) (i : Nat) : bt (x ^^^ y) i = (bt x i ^^ bt y i) := by unfold bt; rw [Int32.toBitVec_xor, BitVec.getLsbD_xor]
theorem b_m1 : ∀ i, i < 32 → bt (-1) i = true := by decide +kernel
theorem b_0 (i : Nat) : bt 0 i = false := BitVec.getLsbD_zero
theorem b_one : ∀ w, w < 24 → ∀ v, v < 24 → bt ((1 : Int32) <<< (nI w &&& 31)) v = decide (w = v) := by decide +kernel
theorem b_and1 : ∀ v, v < 24 → ∀ i, i < 32 → bt ((1 : Int32) <<< (nI v &&& 31)) i = decide (v = i) := by decide +kernel
theorem b_ext {x y : Int32} (h : ∀ i, i < 32 → bt x i = bt y i) : x = y := Int32.toBitVec_inj.mp (BitVec.eq_of_getLsbD_eq (fun i hi => h i hi))
theorem nI_inj {a b : Nat} (ha : a < 2 ^ 31) (hb : b < 2 ^ 31) (h : nI a = nI b) : a = b := (nI_eq ha hb).mp h
theorem bt_bit {x : Int32} {v : Nat} (hv : v < 24) : bt (bitV x) v = decide (x = nI v) := by
  unfold bitV
  by_cases h : inB x 24 = true
  · rw [if_pos h]
    obtain ⟨w, hw, rfl⟩ := inB_j h (by decide)
    rw [b_one w hw v hv]
    congr 1
    simp only [eq_iff_iff]
    exact ⟨fun z => by rw [z], fun z => nI_inj (by omega) (by omega) z⟩
  · rw [if_neg h, b_0]
    refine (decide_eq_false fun z => h ?_).symm
    rw [z, inB_nI (by omega)]
    exact decide_eq_true hv
theorem bt_andz {x : Int32} {v : Nat} (hv : v < 24) : (¬ x &&& bitV (nI v) = 0) ↔ bt x v = true := by
  have hb : bitV (nI v) = 1 <<< (nI v &&& 31) := if_pos (by rw [inB_nI (by omega)]; exact decide_eq_true hv)
  constructor
  · intro h
    cases hx : bt x v with
    | true => rfl
    | false =>
      refine absurd (b_ext fun i hi => ?_) h
      rw [b_and, hb, b_and1 v hv i hi, b_0]
      by_cases e : v = i
      · subst e; rw [hx]; rfl
      · rw [decide_eq_false e, Bool.and_false]
  · intro h z
    have q := b_and x (bitV (nI v)) v
    rw [z, b_0, h, hb, b_one v hv v hv, decide_eq_true rfl] at q
    exact absurd q (by decide)
/-- every op that there is is one that op(..) took -/
def okRow (n : Nat) (fk fa fb fc : Nat → Int32) : Prop := ∀ k, k < n → okOp (fk k) (fa k) (fb k) (fc k) = true
theorem kA_nI {n k : Nat} {fk : Nat → Int32} (hk : k < n) (hn : n ≤ 60) : kA n fk (nI k) = fk k := by
  unfold kA
  rw [if_pos (by rw [inB_nI (by omega)]; exact decide_eq_true hk), nI_clamp (by omega)]
def tgN (fk fa fb : Nat → Int32) (k : Nat) : Nat := if fk k = 7 then (fa k).toNatClampNeg else (fb k).toNatClampNeg
def rdB (n : Nat) (fk fa fb fc : Nat → Int32) (v k : Nat) : Bool := decide (lA n fk fa fb (nI k) = nI v) || decide (rA n fk fc (nI k) = nI v)
def stB (n : Nat) (fk fa : Nat → Int32) (v k : Nat) : Bool := decide (sA n fk fa (nI k) = nI v)
/-- live in the row -/
def LiveR (n : Nat) (fk fa fb fc : Nat → Int32) (v k : Nat) : Prop := li_Live n fk (tgN fk fa fb) (rdB n fk fa fb fc v) (stB n fk fa v) k
theorem sH_nI {ff : Nat → Int32} {k : Nat} (hk : k < 61) : sH ff (nI k) = ff k := by
  unfold sH
  rw [if_pos (by rw [inB_nI (by omega)]; exact decide_eq_true hk), nI_clamp (by omega)]
theorem sH_in {ff : Nat → Int32} {x : Int32} (h : inB x 61 = true) : sH ff x = ff x.toNatClampNeg := if_pos h
theorem ok7 {a b c : Int32} {k : Int32} (h : okOp k a b c = true) (h7 : k = 7) : inB a 61 = true := by
  subst h7; simpa [okOp] using h
theorem ok8 {a b c : Int32} {k : Int32} (h : okOp k a b c = true) (h8 : k = 8) : inB a 24 = true ∧ inB b 61 = true := by
  subst h8; simpa [okOp] using h
section MSK
variable {n : Nat} {fk fa fb fc : Nat → Int32} {v : Nat}
theorem fnd_bt (hn : n ≤ 60) (hok : okRow n fk fa fb fc) (hv : v < 24) {ff : Nat → Int32} {k : Nat} (hk : k < n) :
    bt (fnd n fk fa fb fc ff (nI k)) v = li_stp n fk (tgN fk fa fb) (rdB n fk fa fb fc v) (stB n fk fa v) (fun j => bt (ff j) v) k := by
  have hkA : kA n fk (nI k) = fk k := kA_nI hk hn
  have e1 : nI k + 1 = nI (k + 1) := nI_1 k
  have hs : bt (sBh n fk fa fb ff (nI k)) v = li_nx fk (tgN fk fa fb) (fun j => bt (ff j) v) k := by
    unfold sBh li_nx tA tgN
    rw [hkA, e1, sH_nI (show k + 1 < 61 by omega), nI_clamp (show k < 2 ^ 31 by omega)]
    by_cases h7 : fk k = 7
    · simp only [h7, if_true]
      rw [sH_in (ok7 (hok k hk) h7)]
    · simp only [if_neg h7]
      by_cases h8 : fk k = 8
      · simp only [h8, if_true]
        rw [sH_in (ok8 (hok k hk) h8).2, b_or]
      · simp only [if_neg h8]
        by_cases h11 : fk k = 11
        · simp only [h11, if_true]; exact b_0 v
        · simp only [if_neg h11]
  unfold fnd li_stp rdB stB
  rw [b_or, b_or, b_and, b_xor, bt_bit hv, bt_bit hv, bt_bit hv, b_m1 v (by omega), hs, decide_eq_true hk]
  simp only [Bool.true_and, Bool.bne_true, Bool.xor_true]
theorem swp_ok (hn : n ≤ 60) (hok : okRow n fk fa fb fc) (hv : v < 24) : ∀ (j : Nat) (ff : Nat → Int32) (ch : Int32), j ≤ n →
    (∀ k, bt (ff k) v = true → li_stp n fk (tgN fk fa fb) (rdB n fk fa fb fc v) (stB n fk fa v) (fun i => bt (ff i) v) k = true) →
    (∀ k, bt (ff k) v = true → LiveR n fk fa fb fc v k) →
    (∀ k, bt (ff k) v = true → bt ((swp n fk fa fb fc j ff ch).1 k) v = true) ∧
    (∀ k, bt ((swp n fk fa fb fc j ff ch).1 k) v = true → li_stp n fk (tgN fk fa fb) (rdB n fk fa fb fc v) (stB n fk fa v) (fun i => bt ((swp n fk fa fb fc j ff ch).1 i) v) k = true) ∧
    (∀ k, bt ((swp n fk fa fb fc j ff ch).1 k) v = true → LiveR n fk fa fb fc v k) ∧
    (∀ k, k < j → li_stp n fk (tgN fk fa fb) (rdB n fk fa fb fc v) (stB n fk fa v) (fun i => bt (ff i) v) k = true → bt ((swp n fk fa fb fc j ff ch).1 k) v = true) := by
  intro j
  induction j with
  | zero => intro ff ch _ hp hs; exact ⟨fun k z => z, hp, hs, fun k z => absurd z (Nat.not_lt_zero _)⟩
  | succ j ih =>
    intro ff ch hj hp hs
    have hfb := fnd_bt hn hok hv (ff := ff) (k := j) (by omega)
    -- the row behind this op's turn
    have key : ∃ (f1 : Nat → Int32) (c1 : Int32), swp n fk fa fb fc (j + 1) ff ch = swp n fk fa fb fc j f1 c1 ∧ f1 j = fnd n fk fa fb fc ff (nI j) ∧ ∀ k, k ≠ j → f1 k = ff k := by
      by_cases q : fnd n fk fa fb fc ff (nI j) = ff j
      · exact ⟨ff, ch, by rw [swp, if_pos q], q.symm, fun _ _ => rfl⟩
      · exact ⟨upd ff j (fnd n fk fa fb fc ff (nI j)), 1, by rw [swp, if_neg q], pk_us, fun k hk => pk_un hk⟩
    obtain ⟨f1, c1, e, ej, eo⟩ := key
    rw [e]
    have up : ∀ k, bt (ff k) v = true → bt (f1 k) v = true := by
      intro k z
      by_cases q : k = j
      · subst q; rw [ej, hfb]; exact hp k z
      · rw [eo k q]; exact z
    have hp1 : ∀ k, bt (f1 k) v = true → li_stp n fk (tgN fk fa fb) (rdB n fk fa fb fc v) (stB n fk fa v) (fun i => bt (f1 i) v) k = true := by
      intro k z
      refine li_stp_mono up k ?_
      by_cases q : k = j
      · subst q; rw [ej, hfb] at z; exact z
      · rw [eo k q] at z; exact hp k z
    have hs1 : ∀ k, bt (f1 k) v = true → LiveR n fk fa fb fc v k := by
      intro k z
      by_cases q : k = j
      · subst q; rw [ej, hfb] at z; exact li_Live_step hs z
      · rw [eo k q] at z; exact hs k z
    obtain ⟨a1, a2, a3, a4⟩ := ih f1 c1 (by omega) hp1 hs1
    refine ⟨fun k z => a1 k (up k z), a2, a3, fun k hk z => ?_⟩
    by_cases q : k = j
    · subst q; exact a1 k (by rw [ej, hfb]; exact z)
    · exact a4 k (by omega) (li_stp_mono up k z)
/-- the mark stays once set -/
theorem swp_ch : ∀ (j : Nat) (ff : Nat → Int32), (swp n fk fa fb fc j ff 1).2 = 1 := by
  intro j
  induction j with
  | zero => intro ff; rfl
  | succ j ih =>
    intro ff
    by_cases q : fnd n fk fa fb fc ff (nI j) = ff j
    · rw [swp, if_pos q]; exact ih ff
    · rw [swp, if_neg q]; exact ih _
theorem swp_ch0 : ∀ (j : Nat) (ff : Nat → Int32), (swp n fk fa fb fc j ff 0).2 = 0 → (swp n fk fa fb fc j ff 0).1 = ff ∧ ∀ k, k < j → fnd n fk fa fb fc ff (nI k) = ff k := by
  intro j
  induction j with
  | zero => intro ff _; exact ⟨rfl, fun k z => absurd z (Nat.not_lt_zero _)⟩
  | succ j ih =>
    intro ff
    by_cases q : fnd n fk fa fb fc ff (nI j) = ff j
    · rw [swp, if_pos q]
      intro z
      obtain ⟨a, b⟩ := ih ff z
      refine ⟨a, fun k hk => ?_⟩
      by_cases e : k = j
      · subst e; exact q
      · exact b k (by omega)
    · rw [swp, if_neg q]
      intro z
      rw [swp_ch] at z
      exact absurd z (by decide)
theorem swp_01 : ∀ (j : Nat) (ff : Nat → Int32) (ch : Int32), (ch = 0 ∨ ch = 1) → ((swp n fk fa fb fc j ff ch).2 = 0 ∨ (swp n fk fa fb fc j ff ch).2 = 1) := by
  intro j
  induction j with
  | zero => intro ff ch h; exact h
  | succ j ih =>
    intro ff ch h
    by_cases q : fnd n fk fa fb fc ff (nI j) = ff j
    · rw [swp, if_pos q]; exact ih ff ch h
    · rw [swp, if_neg q]; exact ih _ 1 (Or.inr rfl)
theorem flw_ok (hn : n ≤ 60) (hok : okRow n fk fa fb fc) (hv : v < 24) : ∀ (q i : Nat) (ff : Nat → Int32) (ch : Int32), q + i = 61 →
    (∀ k, bt (ff k) v = true → li_stp n fk (tgN fk fa fb) (rdB n fk fa fb fc v) (stB n fk fa v) (fun i => bt (ff i) v) k = true) →
    (∀ k, bt (ff k) v = true → LiveR n fk fa fb fc v k) →
    (∀ k, li_L n fk (tgN fk fa fb) (rdB n fk fa fb fc v) (stB n fk fa v) i k = true → bt (ff k) v = true) →
    (ch = 0 → ∀ k, k < n → fnd n fk fa fb fc ff (nI k) = ff k) →
    ∀ k, bt ((flw n fk fa fb fc q ff ch) k) v = true ↔ LiveR n fk fa fb fc v k := by
  intro q
  induction q with
  | zero =>
    intro i ff ch hi hp hs hL hc k
    show bt (ff k) v = true ↔ _
    exact ⟨hs k, fun z => hL k (li_L_all (by omega) z)⟩
  | succ q ih =>
    intro i ff ch hi hp hs hL hc k
    by_cases c0 : ch = 0
    · rw [flw, if_pos c0]
      refine ⟨hs k, fun z => li_fixL (g := fun j => bt (ff j) v) (fun j hj => ?_) z⟩
      have hjn : j < n := (li_stp_iff.mp hj).1
      show bt (ff j) v = true
      rw [← hc c0 j hjn, fnd_bt hn hok hv hjn]
      exact hj
    · rw [flw, if_neg c0]
      obtain ⟨a1, a2, a3, a4⟩ := swp_ok hn hok hv n ff 0 (Nat.le_refl n) hp hs
      refine ih (i + 1) _ _ (by omega) a2 a3 (fun j hj => a4 j (li_stp_iff.mp hj).1 (li_stp_mono hL j hj)) (fun z => ?_) k
      obtain ⟨b1, b2⟩ := swp_ch0 n ff z
      rw [b1]
      exact b2
/-- THE CLASS'S LIVENESS -/
theorem flw_live (hn : n ≤ 60) (hok : okRow n fk fa fb fc) (hv : v < 24) (k : Nat) : bt (flw n fk fa fb fc 61 (fun _ => 0) 1 k) v = true ↔ LiveR n fk fa fb fc v k :=
  flw_ok hn hok hv 61 0 (fun _ => 0) 1 rfl (fun k z => absurd z (by rw [b_0]; decide)) (fun k z => absurd z (by rw [b_0]; decide)) (fun k z => absurd z (by simp [li_L])) (fun z => absurd z (by decide)) k
theorem hasB_live (hn : n ≤ 60) (hok : okRow n fk fa fb fc) (hv : v < 24) {k : Nat} (hk : k < 61) : hasB (flw n fk fa fb fc 61 (fun _ => 0) 1) (nI k) (nI v) = true ↔ LiveR n fk fa fb fc v k := by
  unfold hasB
  rw [decide_eq_true_eq, sH_nI hk, bt_andz hv]
  exact flw_live hn hok hv k
end MSK
end
section
/-! Pure words for the class's scan. -/
def fO (f : Nat → Int32) (v : Int32) : Int32 := if inB v 24 = true then f v.toNatClampNeg else -2
def rO (f : Nat → Int32) (v : Int32) : Int32 := if inB v 24 = true then f v.toNatClampNeg else -1
def arB (la : Nat → Int32) (v : Int32) : Bool := inB v 24 && decide (¬ la v.toNatClampNeg = -2)
def ovB (ov : Nat → Int32) (v : Int32) : Bool := inB v 24 && decide (¬ ov v.toNatClampNeg = 0)
/-- values with registers: q values are left, v the next -/
def cR (rg : Nat → Int32) : Nat → Nat → Nat → Nat
  | 0, _, c => c
  | q + 1, v, c => if rg v = -1 then cR rg q (v + 1) c else cR rg q (v + 1) (c + 1)
def nF (fi la : Nat → Int32) (j : Nat) (t : Int32) : Nat → Int32 := if la j = -2 then upd fi j t else fi
/-- the times of value v: q ops are left, k the next -/
def ftK (n : Nat) (fk fa ff : Nat → Int32) (v : Nat) : Nat → Nat → (Nat → Int32) → (Nat → Int32) → (Nat → Int32) × (Nat → Int32)
  | 0, _, fi, la => (fi, la)
  | q + 1, k, fi, la =>
    if hasB ff (nI k) (nI v) = true then
      if sA n fk fa (nI k) = nI v then ftK n fk fa ff v q (k + 1) (nF (nF fi la v (nI (2 * k))) (upd la v (nI (2 * k))) v (nI (2 * k + 1))) (upd (upd la v (nI (2 * k))) v (nI (2 * k + 1)))
      else ftK n fk fa ff v q (k + 1) (nF fi la v (nI (2 * k))) (upd la v (nI (2 * k)))
    else if sA n fk fa (nI k) = nI v then ftK n fk fa ff v q (k + 1) (nF fi la v (nI (2 * k + 1))) (upd la v (nI (2 * k + 1)))
    else ftK n fk fa ff v q (k + 1) fi la
def ft0 (ff fi la : Nat → Int32) (v : Nat) : (Nat → Int32) × (Nat → Int32) := if hasB ff 0 (nI v) = true then (nF fi la v (-1), upd la v (-1)) else (fi, la)
def ftO (n : Nat) (fk fa ff : Nat → Int32) : Nat → Nat → (Nat → Int32) → (Nat → Int32) → (Nat → Int32) × (Nat → Int32)
  | 0, _, fi, la => (fi, la)
  | q + 1, v, fi, la => ftO n fk fa ff q (v + 1) (ftK n fk fa ff v n 0 (ft0 ff fi la v).1 (ft0 ff fi la v).2).1 (ftK n fk fa ff v n 0 (ft0 ff fi la v).1 (ft0 ff fi la v).2).2
/-- over a call: q ops are left -/
def ocK (n : Nat) (fk fi la : Nat → Int32) (v : Nat) : Nat → Nat → (Nat → Int32) → (Nat → Int32)
  | 0, _, ov => ov
  | q + 1, k, ov => if kA n fk (nI k) = 9 ∧ arB la (nI v) = true ∧ ¬ nI (2 * k) < fi v ∧ ¬ la v ≤ nI (2 * k) then ocK n fk fi la v q (k + 1) (upd ov v 1) else ocK n fk fi la v q (k + 1) ov
def ocO (n : Nat) (fk fi la : Nat → Int32) : Nat → Nat → (Nat → Int32) → (Nat → Int32)
  | 0, _, ov => ov
  | q + 1, v, ov => ocO n fk fi la q (v + 1) (ocK n fk fi la v n 0 (upd ov v 0))
/-- a value is put in: places down from w -/
def ins (fi : Nat → Int32) (v : Nat) : Nat → (Nat → Int32) → (Nat → Int32)
  | 0, od => upd od 0 (nI v)
  | w + 1, od => if fO fi (od w) ≤ fi v then upd od (w + 1) (nI v) else ins fi v w (upd od (w + 1) (od w))
def odO (fi la : Nat → Int32) : Nat → Nat → Nat → (Nat → Int32) → Nat × (Nat → Int32)
  | 0, _, w, od => (w, od)
  | q + 1, v, w, od => if arB la (nI v) = true then odO fi la q (v + 1) (w + 1) (ins fi v w od) else odO fi la q (v + 1) w od
/-- the least free place: q places are left, p the next -/
def lF (fi la ho : Nat → Int32) (x : Int32) : Nat → Nat → Int32
  | 0, _ => -1
  | q + 1, p => if fO fi x ≤ fO la (ho p) then lF fi la ho x q (p + 1) else nI p
def rhl (la rh : Nat → Int32) : Nat → Nat → Int32 → Int32 → Int32
  | 0, _, f, _ => f
  | q + 1, p, f, g => if fO la (rh p) < g then rhl la rh q (p + 1) f g else rhl la rh q (p + 1) (nI p) (fO la (rh p))
/-- one value and the registers: the registers' row, the holders' row -/
def gvR (fi la rg rh : Nat → Int32) (w : Nat) (x : Int32) : (Nat → Int32) × (Nat → Int32) :=
  if lF fi la rh x w 0 = -1 then
    if rhl la rh w 0 (-1) (-2) = -1 then (rg, rh)
    else if inB (rh (rhl la rh w 0 (-1) (-2)).toNatClampNeg) 24 = false then (rg, rh)
    else if la (rh (rhl la rh w 0 (-1) (-2)).toNatClampNeg).toNatClampNeg ≤ fO la x then (rg, rh)
    else (upd (upd rg (rh (rhl la rh w 0 (-1) (-2)).toNatClampNeg).toNatClampNeg (-1)) x.toNatClampNeg (rhl la rh w 0 (-1) (-2)), upd rh (rhl la rh w 0 (-1) (-2)).toNatClampNeg x)
  else (upd rg x.toNatClampNeg (lF fi la rh x w 0), upd rh (lF fi la rh x w 0).toNatClampNeg x)
def gRs (fi la ov od : Nat → Int32) (w : Nat) : Nat → Nat → (Nat → Int32) → (Nat → Int32) → (Nat → Int32) × (Nat → Int32)
  | 0, _, rg, rh => (rg, rh)
  | q + 1, i, rg, rh => if ovB ov (od i) = true then gRs fi la ov od w q (i + 1) rg rh else gRs fi la ov od w q (i + 1) (gvR fi la rg rh w (od i)).1 (gvR fi la rg rh w (od i)).2
def gvS (fi la sl sh : Nat → Int32) (c : Int32) (x : Int32) : (Nat → Int32) × (Nat → Int32) × Int32 :=
  if lF fi la sh x 24 0 = -1 then (sl, sh, c) else (upd sl x.toNatClampNeg (lF fi la sh x 24 0), upd sh (lF fi la sh x 24 0).toNatClampNeg x, if c < lF fi la sh x 24 0 + 1 then lF fi la sh x 24 0 + 1 else c)
def gSs (fi la rg od : Nat → Int32) : Nat → Nat → (Nat → Int32) → (Nat → Int32) → Int32 → (Nat → Int32) × (Nat → Int32) × Int32
  | 0, _, sl, sh, c => (sl, sh, c)
  | q + 1, i, sl, sh, c => if rg (od i).toNatClampNeg = -1 then gSs fi la rg od q (i + 1) (gvS fi la sl sh c (od i)).1 (gvS fi la sl sh c (od i)).2.1 (gvS fi la sl sh c (od i)).2.2 else gSs fi la rg od q (i + 1) sl sh c
theorem lF_in {fi la ho : Nat → Int32} {x : Int32} : ∀ (q p : Nat), lF fi la ho x q p = -1 ∨ ∃ j, p ≤ j ∧ j < p + q ∧ lF fi la ho x q p = nI j := by
  intro q
  induction q with
  | zero => intro p; exact Or.inl rfl
  | succ q ih =>
    intro p
    by_cases h : fO fi x ≤ fO la (ho p)
    · rw [lF, if_pos h]
      rcases ih (p + 1) with e | ⟨j, h1, h2, h3⟩
      · exact Or.inl e
      · exact Or.inr ⟨j, by omega, by omega, h3⟩
    · rw [lF, if_neg h]
      exact Or.inr ⟨p, Nat.le_refl p, by omega, rfl⟩
theorem rhl_in {la rh : Nat → Int32} : ∀ (q p : Nat) (f g : Int32), rhl la rh q p f g = f ∨ ∃ j, p ≤ j ∧ j < p + q ∧ rhl la rh q p f g = nI j := by
  intro q
  induction q with
  | zero => intro p f g; exact Or.inl rfl
  | succ q ih =>
    intro p f g
    by_cases h : fO la (rh p) < g
    · rw [rhl, if_pos h]
      rcases ih (p + 1) f g with e | ⟨j, h1, h2, h3⟩
      · exact Or.inl e
      · exact Or.inr ⟨j, by omega, by omega, h3⟩
    · rw [rhl, if_neg h]
      rcases ih (p + 1) (nI p) (fO la (rh p)) with e | ⟨j, h1, h2, h3⟩
      · exact Or.inr ⟨p, Nat.le_refl p, by omega, e⟩
      · exact Or.inr ⟨j, by omega, by omega, h3⟩
theorem lF_inB {fi la ho : Nat → Int32} {x : Int32} {w N : Nat} (hw : w ≤ N) (h : ¬ lF fi la ho x w 0 = -1) (hN : N ≤ 1000 := by decide) : inB (lF fi la ho x w 0) N = true := by
  obtain ⟨j, -, h2, h3⟩ := (lF_in w 0).resolve_left h
  rw [h3, inB_nI (by omega)]
  exact decide_eq_true (by omega)
theorem rhl_inB {la rh : Nat → Int32} {w N : Nat} {g : Int32} (hw : w ≤ N) (h : ¬ rhl la rh w 0 (-1) g = -1) (hN : N ≤ 1000 := by decide) : inB (rhl la rh w 0 (-1) g) N = true := by
  obtain ⟨j, -, h2, h3⟩ := (rhl_in w 0 (-1) g).resolve_left h
  rw [h3, inB_nI (by omega)]
  exact decide_eq_true (by omega)
end
section
/-! The order of the values: the class's row, the model's choice of the next one. -/
/-- a comes ahead of b: by first times, then by numbers -/
def bef (fi : Nat → Int32) (a b : Nat) : Prop := (fi a).toInt < (fi b).toInt ∨ ((fi a).toInt = (fi b).toInt ∧ a < b)
theorem bef_irr {fi : Nat → Int32} {a : Nat} : ¬ bef fi a a := by unfold bef; omega
theorem bef_tr {fi : Nat → Int32} {a b c : Nat} (h : bef fi a b) (k : bef fi b c) : bef fi a c := by unfold bef at *; omega
theorem bef_tot {fi : Nat → Int32} {a b : Nat} (h : a ≠ b) : bef fi a b ∨ bef fi b a := by unfold bef; omega
theorem fO_nI {f : Nat → Int32} {a : Nat} (h : a < 24) : fO f (nI a) = f a := by
  unfold fO
  rw [if_pos (by rw [inB_nI (by omega)]; exact decide_eq_true h), nI_clamp (by omega)]
theorem rO_nI {f : Nat → Int32} {a : Nat} (h : a < 24) : rO f (nI a) = f a := by
  unfold rO
  rw [if_pos (by rw [inB_nI (by omega)]; exact decide_eq_true h), nI_clamp (by omega)]
theorem arB_nI {la : Nat → Int32} {a : Nat} (h : a < 24) : arB la (nI a) = decide (¬ la a = -2) := by
  unfold arB
  rw [inB_nI (by omega), decide_eq_true h, nI_clamp (by omega), Bool.true_and]
theorem ovB_nI {ov : Nat → Int32} {a : Nat} (h : a < 24) : ovB ov (nI a) = decide (¬ ov a = 0) := by
  unfold ovB
  rw [inB_nI (by omega), decide_eq_true h, nI_clamp (by omega), Bool.true_and]
theorem ins_hi {fi : Nat → Int32} {v : Nat} : ∀ (w : Nat) (od : Nat → Int32) (i : Nat), w < i → ins fi v w od i = od i := by
  intro w
  induction w with
  | zero => intro od i h; rw [ins]; exact pk_un (by omega)
  | succ w ih =>
    intro od i h
    by_cases q : fO fi (od w) ≤ fi v
    · rw [ins, if_pos q]; exact pk_un (by omega)
    · rw [ins, if_neg q, ih _ i (by omega)]; exact pk_un (by omega)
theorem ins_spec {fi : Nat → Int32} {v : Nat} : ∀ (w : Nat) (od : Nat → Int32), ∃ p, p ≤ w ∧ (∀ i, i < p → ins fi v w od i = od i) ∧ ins fi v w od p = nI v ∧ (∀ i, p < i → i ≤ w → ins fi v w od i = od (i - 1)) ∧ (p = 0 ∨ fO fi (od (p - 1)) ≤ fi v) ∧ ∀ i, p ≤ i → i < w → ¬ fO fi (od i) ≤ fi v := by
  intro w
  induction w with
  | zero => intro od; exact ⟨0, Nat.le_refl 0, fun i h => absurd h (Nat.not_lt_zero _), by rw [ins]; exact pk_us, fun i h1 h2 => by omega, Or.inl rfl, fun i _ h => absurd h (Nat.not_lt_zero _)⟩
  | succ w ih =>
    intro od
    by_cases q : fO fi (od w) ≤ fi v
    · refine ⟨w + 1, Nat.le_refl _, fun i h => ?_, ?_, fun i h1 h2 => by omega, Or.inr q, fun i h1 h2 => by omega⟩
      · rw [ins, if_pos q]; exact pk_un (by omega)
      · rw [ins, if_pos q]; exact pk_us
    · obtain ⟨p, h1, h2, h3, h4, h5, h6⟩ := ih (upd od (w + 1) (od w))
      have eo : ∀ i, i ≤ w → upd od (w + 1) (od w) i = od i := fun i hi => pk_un (by omega)
      refine ⟨p, by omega, fun i h => ?_, ?_, fun i g1 g2 => ?_, ?_, fun i g1 g2 => ?_⟩
      · rw [ins, if_neg q, h2 i h, eo i (by omega)]
      · rw [ins, if_neg q, h3]
      · rw [ins, if_neg q]
        by_cases e : i = w + 1
        · subst e; rw [ins_hi _ _ _ (by omega), pk_us]; rfl
        · rw [h4 i g1 (by omega), eo _ (by omega)]
      · rcases h5 with h5 | h5
        · exact Or.inl h5
        · by_cases e : p = 0
          · exact Or.inl e
          · rw [eo _ (by omega)] at h5; exact Or.inr h5
      · by_cases e : i = w
        · subst e; exact q
        · have := h6 i g1 (by omega)
          rw [eo i (by omega)] at this
          exact this
/-- the row od holds, in their order, just the values below v that are -/
def ordd (fi la : Nat → Int32) (v w : Nat) (od : Nat → Int32) : Prop :=
  w ≤ v ∧ (∀ i, i < w → ∃ a, a < v ∧ od i = nI a ∧ arB la (nI a) = true) ∧ (∀ i j a b, i < j → j < w → od i = nI a → od j = nI b → a < 24 → b < 24 → bef fi a b) ∧ ∀ a, a < v → arB la (nI a) = true → ∃ i, i < w ∧ od i = nI a
theorem ordd_ins {fi la : Nat → Int32} {v w : Nat} {od : Nat → Int32} (hv : v < 24) (h : ordd fi la v w od) (ha : arB la (nI v) = true) : ordd fi la (v + 1) (w + 1) (ins fi v w od) := by
  obtain ⟨h1, h2, h3, h4⟩ := h
  obtain ⟨p, p1, p2, p3, p4, p5, p6⟩ := ins_spec (fi := fi) (v := v) w od
  have inj : ∀ {a b : Nat}, a < 24 → b < 24 → nI a = nI b → a = b := fun ha hb e => nI_inj (by omega) (by omega) e
  -- where an entry comes from
  have src : ∀ i, i < w + 1 → (i < p ∧ ins fi v w od i = od i) ∨ (i = p ∧ ins fi v w od i = nI v) ∨ (p < i ∧ i - 1 < w ∧ ins fi v w od i = od (i - 1)) := by
    intro i hi
    rcases Nat.lt_trichotomy i p with g | g | g
    · exact Or.inl ⟨g, p2 i g⟩
    · subst g; exact Or.inr (Or.inl ⟨rfl, p3⟩)
    · exact Or.inr (Or.inr ⟨g, by omega, p4 i g (by omega)⟩)
  -- what stands ahead of p is not above v; what stands from p on is
  have lo : ∀ i a, i < p → od i = nI a → a < v → bef fi a v := by
    intro i a hi e av
    have hp0 : p ≠ 0 := by omega
    have q : fO fi (od (p - 1)) ≤ fi v := p5.resolve_left hp0
    obtain ⟨b, bv, eb, -⟩ := h2 (p - 1) (by omega)
    rw [eb, fO_nI (by omega), Int32.le_iff_toInt_le] at q
    by_cases e2 : i = p - 1
    · subst e2
      have : a = b := inj (by omega) (by omega) (e.symm.trans eb)
      subst this
      unfold bef; omega
    · have := h3 i (p - 1) a b (by omega) (by omega) e eb (by omega) (by omega)
      unfold bef at *; omega
  have hi : ∀ i a, p ≤ i → i < w → od i = nI a → a < v → bef fi v a := by
    intro i a g1 g2 e av
    have q := p6 i g1 g2
    rw [e, fO_nI (by omega), Int32.le_iff_toInt_le] at q
    unfold bef; omega
  refine ⟨by omega, fun i hi0 => ?_, fun i j a b hij hj ea eb a24 b24 => ?_, fun a hav har => ?_⟩
  · rcases src i hi0 with ⟨g, e⟩ | ⟨g, e⟩ | ⟨g, g2, e⟩
    · obtain ⟨a, av, ea, eb⟩ := h2 i (by omega)
      exact ⟨a, by omega, e.trans ea, eb⟩
    · exact ⟨v, by omega, e, ha⟩
    · obtain ⟨a, av, ea, eb⟩ := h2 (i - 1) g2
      exact ⟨a, by omega, e.trans ea, eb⟩
  · rcases src i (by omega) with ⟨g, e⟩ | ⟨g, e⟩ | ⟨g, g2, e⟩
    · obtain ⟨a', av', ea', -⟩ := h2 i (by omega)
      have : a = a' := inj a24 (by omega) (ea.symm.trans (e.trans ea'))
      subst this
      rcases src j hj with ⟨k, f⟩ | ⟨k, f⟩ | ⟨k, k2, f⟩
      · exact h3 i j a b hij (by omega) ea' (f.symm.trans eb) a24 b24
      · have : b = v := inj b24 hv (eb.symm.trans f)
        subst this
        exact lo i a g ea' av'
      · exact h3 i (j - 1) a b (by omega) (by omega) ea' (f.symm.trans eb) a24 b24
    · have : a = v := inj a24 hv (ea.symm.trans e)
      subst this
      rcases src j hj with ⟨k, f⟩ | ⟨k, f⟩ | ⟨k, k2, f⟩
      · omega
      · omega
      · obtain ⟨b', bv', eb', -⟩ := h2 (j - 1) k2
        have : b = b' := inj b24 (by omega) (eb.symm.trans (f.trans eb'))
        subst this
        exact hi (j - 1) b (by omega) k2 eb' bv'
    · rcases src j hj with ⟨k, f⟩ | ⟨k, f⟩ | ⟨k, k2, f⟩
      · omega
      · omega
      · exact h3 (i - 1) (j - 1) a b (by omega) k2 (e.symm.trans ea) (f.symm.trans eb) a24 b24
  · by_cases e : a = v
    · subst e; exact ⟨p, by omega, p3⟩
    · obtain ⟨i, hi0, ei⟩ := h4 a (by omega) har
      by_cases g : i < p
      · exact ⟨i, by omega, (p2 i g).trans ei⟩
      · exact ⟨i + 1, by omega, (p4 (i + 1) (by omega) (by omega)).trans ei⟩
theorem ordd_skip {fi la : Nat → Int32} {v w : Nat} {od : Nat → Int32} (h : ordd fi la v w od) (ha : ¬ arB la (nI v) = true) : ordd fi la (v + 1) w od := by
  obtain ⟨h1, h2, h3, h4⟩ := h
  refine ⟨by omega, fun i hi => ?_, h3, fun a hav har => ?_⟩
  · obtain ⟨a, av, e⟩ := h2 i hi
    exact ⟨a, by omega, e⟩
  · by_cases e : a = v
    · subst e; exact absurd har ha
    · exact h4 a (by omega) har
theorem odO_ok {fi la : Nat → Int32} : ∀ (q v w : Nat) (od : Nat → Int32), q + v = 24 → ordd fi la v w od → ordd fi la 24 (odO fi la q v w od).1 (odO fi la q v w od).2 := by
  intro q
  induction q with
  | zero => intro v w od hq h; rw [show v = 24 by omega] at h; exact h
  | succ q ih =>
    intro v w od hq h
    by_cases g : arB la (nI v) = true
    · rw [odO, if_pos g]; exact ih _ _ _ (by omega) (ordd_ins (by omega) h g)
    · rw [odO, if_neg g]; exact ih _ _ _ (by omega) (ordd_skip h g)
theorem ordd_0 {fi la od : Nat → Int32} : ordd fi la 0 0 od := ⟨Nat.le_refl 0, fun i h => absurd h (Nat.not_lt_zero _), fun i j a b _ h => absurd h (Nat.not_lt_zero _), fun a h => absurd h (Nat.not_lt_zero _)⟩
/-- THE CLASS'S ORDER -/
theorem odO_all (fi la od : Nat → Int32) : ordd fi la 24 (odO fi la 24 0 0 od).1 (odO fi la 24 0 0 od).2 := odO_ok 24 0 0 od rfl ordd_0
/-- the model's choice: q values are left, v the next, b the best so far -/
def nO (may : Nat → Bool) (fi : Nat → Int32) : Nat → Nat → Int32 → Int32
  | 0, _, b => b
  | q + 1, v, b => if may v = true ∧ (b = -1 ∨ fi v < fi b.toNatClampNeg) then nO may fi q (v + 1) (nI v) else nO may fi q (v + 1) b
theorem nI_ne_m1 {a : Nat} (h : a < 2 ^ 31) : nI a ≠ -1 := by
  intro e
  have := congrArg Int32.toInt e
  rw [nI_toInt h, show ((-1 : Int32)).toInt = -1 from by decide] at this
  omega
theorem nO_ok {may : Nat → Bool} {fi : Nat → Int32} : ∀ (q v : Nat) (b : Int32), q + v = 24 →
    ((b = -1 ∧ ∀ a, a < v → may a = false) ∨ ∃ a, a < v ∧ b = nI a ∧ may a = true ∧ ∀ c, c < v → may c = true → c ≠ a → bef fi a c) →
    ((nO may fi q v b = -1 ∧ ∀ a, a < 24 → may a = false) ∨ ∃ a, a < 24 ∧ nO may fi q v b = nI a ∧ may a = true ∧ ∀ c, c < 24 → may c = true → c ≠ a → bef fi a c) := by
  intro q
  induction q with
  | zero => intro v b hq h; rw [show v = 24 by omega] at h; exact h
  | succ q ih =>
    intro v b hq h
    by_cases g : may v = true ∧ (b = -1 ∨ fi v < fi b.toNatClampNeg)
    · rw [nO, if_pos g]
      refine ih _ _ (by omega) (Or.inr ⟨v, by omega, rfl, g.1, fun c hc hm hne => ?_⟩)
      rcases h with ⟨e, h0⟩ | ⟨a, av, e, ma, hmin⟩
      · rw [h0 c (by omega)] at hm; exact absurd hm (by decide)
      · have g2 := g.2.resolve_left (by rw [e]; exact nI_ne_m1 (by omega))
        rw [e, nI_clamp (by omega), Int32.lt_iff_toInt_lt] at g2
        by_cases ca : c = a
        · subst ca; unfold bef; omega
        · have := hmin c (by omega) hm ca
          unfold bef at *; omega
    · rw [nO, if_neg g]
      refine ih _ _ (by omega) ?_
      rcases h with ⟨e, h0⟩ | ⟨a, av, e, ma, hmin⟩
      · refine Or.inl ⟨e, fun c hc => ?_⟩
        by_cases cv : c = v
        · subst cv
          cases hm : may c with
          | false => rfl
          | true => exact absurd ⟨hm, Or.inl e⟩ g
        · exact h0 c (by omega)
      · refine Or.inr ⟨a, by omega, e, ma, fun c hc hm hne => ?_⟩
        by_cases cv : c = v
        · subst cv
          have : ¬ fi c < fi a := by
            intro z
            exact g ⟨hm, Or.inr (by rw [e, nI_clamp (by omega)]; exact z)⟩
          rw [Int32.lt_iff_toInt_lt] at this
          unfold bef; omega
        · exact hmin c (by omega) hm hne
theorem nO_all (may : Nat → Bool) (fi : Nat → Int32) : (nO may fi 24 0 (-1) = -1 ∧ ∀ a, a < 24 → may a = false) ∨ ∃ a, a < 24 ∧ nO may fi 24 0 (-1) = nI a ∧ may a = true ∧ ∀ c, c < 24 → may c = true → c ≠ a → bef fi a c :=
  nO_ok 24 0 (-1) rfl (Or.inl ⟨rfl, fun a h => absurd h (Nat.not_lt_zero _)⟩)
end
section
/-! The model's search along the ways finds liveness. -/
def suc (kd : Nat → Int32) (tg : Nat → Nat) (t u : Nat) : Prop := (kd t = 7 ∧ u = tg t) ∨ (kd t = 8 ∧ (u = tg t ∨ u = t + 1)) ∨ (kd t ≠ 7 ∧ kd t ≠ 8 ∧ kd t ≠ 11 ∧ u = t + 1)
theorem li_nx_iff {kd : Nat → Int32} {tg : Nat → Nat} {g : Nat → Bool} {k : Nat} : li_nx kd tg g k = true ↔ ∃ u, suc kd tg k u ∧ g u = true := by
  unfold li_nx suc
  by_cases h7 : kd k = 7
  · rw [if_pos h7]
    constructor
    · intro z; exact ⟨_, Or.inl ⟨h7, rfl⟩, z⟩
    · rintro ⟨u, (⟨-, e⟩ | ⟨e, -⟩ | ⟨e, -⟩), z⟩
      · rw [← e]; exact z
      · rw [h7] at e; exact absurd e (by decide)
      · exact absurd h7 e
  · rw [if_neg h7]
    by_cases h8 : kd k = 8
    · rw [if_pos h8, Bool.or_eq_true]
      constructor
      · rintro (z | z)
        · exact ⟨_, Or.inr (Or.inl ⟨h8, Or.inl rfl⟩), z⟩
        · exact ⟨_, Or.inr (Or.inl ⟨h8, Or.inr rfl⟩), z⟩
      · rintro ⟨u, (⟨e, -⟩ | ⟨-, (e | e)⟩ | ⟨-, e, -⟩), z⟩
        · exact absurd e h7
        · rw [← e]; exact Or.inl z
        · rw [← e]; exact Or.inr z
        · exact absurd h8 e
    · rw [if_neg h8]
      by_cases h11 : kd k = 11
      · rw [if_pos h11]
        constructor
        · intro z; exact absurd z (by decide)
        · rintro ⟨u, (⟨e, -⟩ | ⟨e, -⟩ | ⟨-, -, e, -⟩), -⟩
          · exact absurd e h7
          · exact absurd e h8
          · exact absurd h11 e
      · rw [if_neg h11]
        constructor
        · intro z; exact ⟨_, Or.inr (Or.inr ⟨h7, h8, h11, rfl⟩), z⟩
        · rintro ⟨u, (⟨e, -⟩ | ⟨e, -⟩ | ⟨-, -, -, e⟩), z⟩
          · exact absurd e h7
          · exact absurd e h8
          · rw [← e]; exact z
theorem cnB_bd {g : Nat → Bool} {n : Nat} : ∀ N, (∀ t, t < N → g t = true → t < n) → cnB g N ≤ n := by
  intro N
  induction N with
  | zero => intro _; exact Nat.zero_le _
  | succ N ih =>
    intro h
    show cnB g N + _ ≤ n
    by_cases q : g N = true
    · have h1 := h N (by omega) q
      have h2 := cnB_le g N
      rw [if_pos q]; omega
    · rw [if_neg q]; exact ih fun t ht => h t (by omega)
theorem cnB_congr {g g' : Nat → Bool} : ∀ N, (∀ t, t < N → g t = g' t) → cnB g N = cnB g' N := by
  intro N
  induction N with
  | zero => intro _; rfl
  | succ N ih => intro h; show cnB g N + _ = cnB g' N + _; rw [ih fun t ht => h t (by omega), h N (by omega)]
theorem cnB_one {g g' : Nat → Bool} {u : Nat} (h1 : g u = false) (h2 : g' u = true) (h3 : ∀ t, t ≠ u → g' t = g t) : ∀ N, u < N → cnB g' N = cnB g N + 1 := by
  intro N
  induction N with
  | zero => intro h; exact absurd h (Nat.not_lt_zero _)
  | succ N ih =>
    intro h
    show cnB g' N + _ = cnB g N + _ + 1
    by_cases e : u = N
    · subst e
      rw [cnB_congr (g := g') (g' := g) u fun t ht => h3 t (by omega), h1, h2]
      rfl
    · rw [ih (by omega), h3 N (Ne.symm e)]; omega
section BFS
variable {n : Nat} {kd : Nat → Int32} {tg : Nat → Nat} {rd st : Nat → Bool} {fr : Nat}
/-- the search under way: the first i of the ways are done -/
def bfI (n : Nat) (kd : Nat → Int32) (tg : Nat → Nat) (rd st : Nat → Bool) (fr i ways : Nat) (wy sn : Nat → Int32) : Prop :=
  (∀ t, t < 61 → sn t = 0 ∨ sn t = 1) ∧ (∀ t, t < 61 → sn t = 1 → t < n) ∧ (∀ j, j < ways → ∃ t, t < n ∧ wy j = nI t ∧ sn t = 1) ∧ (∀ t, t < n → sn t = 1 → ∃ j, j < ways ∧ wy j = nI t) ∧
  ways = cnB (fun t => decide (sn t = 1)) 61 ∧ (∀ t, t < n → sn t = 1 → li_Live n kd tg rd st t → li_Live n kd tg rd st fr) ∧
  (∀ j, j < i → ∀ t, t < n → wy j = nI t → rd t = false ∧ (st t = true ∨ ∀ u, suc kd tg t u → u < n → sn u = 1)) ∧ i ≤ ways ∧ sn fr = 1
theorem bf_ways {i ways : Nat} {wy sn : Nat → Int32} (h : bfI n kd tg rd st fr i ways wy sn) : ways ≤ n := by
  obtain ⟨-, h2, -, -, h5, -⟩ := h
  rw [h5]
  exact cnB_bd 61 fun t ht z => h2 t ht (of_decide_eq_true z)
def gtS (n ways : Nat) (wy sn : Nat → Int32) (u : Nat) : Nat × (Nat → Int32) × (Nat → Int32) := if u < n ∧ sn u = 0 then (ways + 1, upd wy ways (nI u), upd sn u 1) else (ways, wy, sn)
theorem bf_go {i ways : Nat} {wy sn : Nat → Int32} (hn : n ≤ 60) (h : bfI n kd tg rd st fr i ways wy sn) {u : Nat} (hL : li_Live n kd tg rd st u → li_Live n kd tg rd st fr) :
    bfI n kd tg rd st fr i (gtS n ways wy sn u).1 (gtS n ways wy sn u).2.1 (gtS n ways wy sn u).2.2 ∧ (u < n → (gtS n ways wy sn u).2.2 u = 1) ∧ (∀ t, sn t = 1 → (gtS n ways wy sn u).2.2 t = 1) ∧ (∀ j, j < ways → (gtS n ways wy sn u).2.1 j = wy j) ∧ ways ≤ (gtS n ways wy sn u).1 := by
  unfold gtS
  by_cases q : u < n ∧ sn u = 0
  · rw [if_pos q]
    dsimp only
    obtain ⟨hu, h0⟩ := q
    obtain ⟨h1, h2, h3, h4, h5, h6, h7, h8, h9⟩ := h
    have un : ∀ t, t ≠ u → upd sn u 1 t = sn t := fun t ht => pk_un ht
    have up : ∀ t, sn t = 1 → upd sn u 1 t = 1 := by
      intro t ht
      by_cases e : t = u
      · subst e; exact pk_us
      · rw [un t e]; exact ht
    have wn : ∀ j, j < ways → upd wy ways (nI u) j = wy j := fun j hj => pk_un (by omega)
    refine ⟨⟨fun t ht => ?_, fun t ht z => ?_, fun j hj => ?_, fun t ht z => ?_, ?_, fun t ht z => ?_, fun j hj t ht e => ?_, by omega, up fr h9⟩, fun _ => pk_us, up, wn, by omega⟩
    · by_cases e : t = u
      · subst e; exact Or.inr pk_us
      · rw [un t e]; exact h1 t ht
    · by_cases e : t = u
      · subst e; exact hu
      · rw [un t e] at z; exact h2 t ht z
    · by_cases e : j = ways
      · subst e; exact ⟨u, hu, pk_us, pk_us⟩
      · obtain ⟨t, a, b, c⟩ := h3 j (by show j < ways; have : j < ways + 1 := hj; omega)
        exact ⟨t, a, (wn j (by have : j < ways + 1 := hj; omega)).trans b, up t c⟩
    · by_cases e : t = u
      · subst e; exact ⟨ways, Nat.lt_succ_self _, pk_us⟩
      · rw [un t e] at z
        obtain ⟨j, a, b⟩ := h4 t ht z
        exact ⟨j, Nat.lt_succ_of_lt a, (wn j a).trans b⟩
    · rw [h5]
      refine (cnB_one (u := u) (by rw [h0]; decide) (by rw [pk_us]; decide) (fun t ht => by rw [un t ht]) 61 (by omega)).symm
    · by_cases e : t = u
      · subst e; exact hL
      · rw [un t e] at z; exact h6 t ht z
    · rw [wn j (by omega)] at e
      obtain ⟨a, b⟩ := h7 j hj t ht e
      refine ⟨a, b.imp id fun b w hw hwn => up w (b w hw hwn)⟩
  · rw [if_neg q]
    refine ⟨h, fun hu => ?_, fun t z => z, fun j _ => rfl, Nat.le_refl _⟩
    rcases h.1 u (by omega) with z | z
    · exact absurd ⟨hu, z⟩ q
    · exact z
theorem bf_next {i ways : Nat} {wy sn : Nat → Int32} (hn : n ≤ 60) (h : bfI n kd tg rd st fr i ways wy sn) (hi : i < ways) {t : Nat} (ht : t < n) (e : wy i = nI t) (hr : rd t = false) (hs : st t = true ∨ ∀ u, suc kd tg t u → u < n → sn u = 1) : bfI n kd tg rd st fr (i + 1) ways wy sn := by
  obtain ⟨h1, h2, h3, h4, h5, h6, h7, h8, h9⟩ := h
  refine ⟨h1, h2, h3, h4, h5, h6, fun j hj t' ht' e' => ?_, hi, h9⟩
  by_cases q : j = i
  · subst q
    have : t' = t := nI_inj (by omega) (by omega) (e'.symm.trans e)
    subst this
    exact ⟨hr, hs⟩
  · exact h7 j (by omega) t' ht' e'
theorem bf_end {ways : Nat} {wy sn : Nat → Int32} (hf : fr < n) (h : bfI n kd tg rd st fr ways ways wy sn) : ¬ li_Live n kd tg rd st fr := by
  intro z
  obtain ⟨h1, h2, h3, h4, h5, h6, h7, h8, h9⟩ := h
  have key := li_fixL (g := fun k => decide (k < n ∧ ¬ sn k = 1)) (fun k hk => ?_) z
  · exact (of_decide_eq_true key).2 h9
  · obtain ⟨a, b⟩ := li_stp_iff.mp hk
    refine decide_eq_true ⟨a, fun hs => ?_⟩
    obtain ⟨j, hj, e⟩ := h4 k a hs
    obtain ⟨r, s⟩ := h7 j hj k a e
    rcases b with b | ⟨b, b2⟩
    · rw [r] at b; exact absurd b (by decide)
    · obtain ⟨u, su, gu⟩ := li_nx_iff.mp b
      rcases s with s | s
      · rw [s] at b2; exact absurd b2 (by decide)
      · exact (of_decide_eq_true gu).2 (s u su (of_decide_eq_true gu).1)
theorem bf_hit {i ways : Nat} {wy sn : Nat → Int32} (h : bfI n kd tg rd st fr i ways wy sn) {t : Nat} (ht : t < n) (hs : sn t = 1) (hr : rd t = true) : li_Live n kd tg rd st fr :=
  h.2.2.2.2.2.1 t ht hs ⟨1, li_stp_iff.mpr ⟨ht, Or.inl hr⟩⟩
theorem bf_suc {i ways : Nat} {wy sn : Nat → Int32} (h : bfI n kd tg rd st fr i ways wy sn) {t u : Nat} (ht : t < n) (hs : sn t = 1) (hst : st t = false) (hu : suc kd tg t u) : li_Live n kd tg rd st u → li_Live n kd tg rd st fr := by
  rintro ⟨j, hj⟩
  exact h.2.2.2.2.2.1 t ht hs ⟨j + 1, li_stp_iff.mpr ⟨ht, Or.inr ⟨li_nx_iff.mpr ⟨u, hu, hj⟩, hst⟩⟩⟩
theorem bf_0 (hn : n ≤ 60) (hf : fr < n) {wy sn : Nat → Int32} (h0 : ∀ t, t < 61 → sn t = 0) : bfI n kd tg rd st fr 0 1 (upd wy 0 (nI fr)) (upd sn fr 1) := by
  have un : ∀ t, t ≠ fr → upd sn fr 1 t = sn t := fun t ht => pk_un ht
  refine ⟨fun t ht => ?_, fun t ht z => ?_, fun j hj => ?_, fun t ht z => ?_, ?_, fun t ht z => ?_, fun j hj => absurd hj (Nat.not_lt_zero _), Nat.zero_le _, pk_us⟩
  · by_cases e : t = fr
    · subst e; exact Or.inr pk_us
    · rw [un t e]; exact Or.inl (h0 t ht)
  · by_cases e : t = fr
    · subst e; exact hf
    · rw [un t e, h0 t ht] at z; exact absurd z (by decide)
  · rw [show j = 0 by omega]; exact ⟨fr, hf, pk_us, pk_us⟩
  · by_cases e : t = fr
    · subst e; exact ⟨0, Nat.zero_lt_one, pk_us⟩
    · rw [un t e, h0 t (by omega)] at z; exact absurd z (by decide)
  · rw [cnB_one (g := fun t => decide (sn t = 1)) (u := fr) (by rw [h0 fr (by omega)]; decide) (by rw [pk_us]; decide) (fun t ht => by rw [un t ht]) 61 (by omega)]
    have : cnB (fun t => decide (sn t = 1)) 61 = cnB (fun _ => false) 61 := cnB_congr 61 fun t ht => by rw [h0 t ht]; decide
    rw [this]; decide
  · by_cases e : t = fr
    · subst e; exact id
    · rw [un t e, h0 t (by omega)] at z; exact absurd z (by decide)
end BFS
end
section
/-! Pure words for the class's machine. -/
def mA (f : Nat → Int32) (n : Nat) (i : Int32) : Int32 := if inB i n = true then f i.toNatClampNeg else 0
def rdM (rg sl mr ms : Nat → Int32) (v : Int32) : Int32 := if rO rg v = -1 then mA ms 24 (rO sl v) else mA mr 8 (rO rg v)
/-- what is set goes to the value's place: the registers' row, the slots' row -/
def wrM (rg sl mr ms : Nat → Int32) (v x : Int32) : (Nat → Int32) × (Nat → Int32) :=
  if inB (rO rg v) 8 = true then (upd mr (rO rg v).toNatClampNeg x, ms) else if inB (rO sl v) 24 = true then (mr, upd ms (rO sl v).toNatClampNeg x) else (mr, ms)
def rck (k x y : Int32) : Int32 := if k = 1 then x + y else if k = 2 then x - y else if k = 3 then x * y else if k = 4 then (if y ≤ x then 0 else 1) else if k = 5 then (if x < y then y else x) else x
end
section
/-! what the class's scan gives -/
theorem od_le (fi la od : Nat → Int32) : (odO fi la 24 0 0 od).1 ≤ 24 := (odO_all fi la od).1
theorem od_in (fi la od : Nat → Int32) : ∀ i, i < (odO fi la 24 0 0 od).1 → inB ((odO fi la 24 0 0 od).2 i) 24 = true := by
  intro i hi
  obtain ⟨a, ha, e, -⟩ := (odO_all fi la od).2.1 i hi
  rw [e, inB_nI (by omega)]
  exact decide_eq_true ha
def scFi (n : Nat) (fk fa ff : Nat → Int32) : Nat → Int32 := (ftO n fk fa ff 24 0 (fun _ => -2) (fun _ => -2)).1
def scLa (n : Nat) (fk fa ff : Nat → Int32) : Nat → Int32 := (ftO n fk fa ff 24 0 (fun _ => -2) (fun _ => -2)).2
def scOv (n : Nat) (fk fa ff ov : Nat → Int32) : Nat → Int32 := ocO n fk (scFi n fk fa ff) (scLa n fk fa ff) 24 0 ov
def scWo (n : Nat) (fk fa ff od : Nat → Int32) : Nat := (odO (scFi n fk fa ff) (scLa n fk fa ff) 24 0 0 od).1
def scOd (n : Nat) (fk fa ff od : Nat → Int32) : Nat → Int32 := (odO (scFi n fk fa ff) (scLa n fk fa ff) 24 0 0 od).2
def scRg (n : Nat) (fk fa ff ov od : Nat → Int32) (w : Nat) : Nat → Int32 := (gRs (scFi n fk fa ff) (scLa n fk fa ff) (scOv n fk fa ff ov) (scOd n fk fa ff od) w (scWo n fk fa ff od) 0 (fun _ => -1) (fun _ => -1)).1
def scRh (n : Nat) (fk fa ff ov od : Nat → Int32) (w : Nat) : Nat → Int32 := (gRs (scFi n fk fa ff) (scLa n fk fa ff) (scOv n fk fa ff ov) (scOd n fk fa ff od) w (scWo n fk fa ff od) 0 (fun _ => -1) (fun _ => -1)).2
def scSl (n : Nat) (fk fa ff ov od : Nat → Int32) (w : Nat) : Nat → Int32 := (gSs (scFi n fk fa ff) (scLa n fk fa ff) (scRg n fk fa ff ov od w) (scOd n fk fa ff od) (scWo n fk fa ff od) 0 (fun _ => -1) (fun _ => -1) 0).1
def scSh (n : Nat) (fk fa ff ov od : Nat → Int32) (w : Nat) : Nat → Int32 := (gSs (scFi n fk fa ff) (scLa n fk fa ff) (scRg n fk fa ff ov od w) (scOd n fk fa ff od) (scWo n fk fa ff od) 0 (fun _ => -1) (fun _ => -1) 0).2.1
def scSc (n : Nat) (fk fa ff ov od : Nat → Int32) (w : Nat) : Int32 := (gSs (scFi n fk fa ff) (scLa n fk fa ff) (scRg n fk fa ff ov od w) (scOd n fk fa ff od) (scWo n fk fa ff od) 0 (fun _ => -1) (fun _ => -1) 0).2.2
end
section
def R_Row : String := "ScanMill$Row"
def T_Row : u_T := fun k => match k with
  | 0 => ("ScanMill$Row", "kinds", "[I", true)
  | 1 => ("ScanMill$Row", "as", "[I", true)
  | 2 => ("ScanMill$Row", "bs", "[I", true)
  | 3 => ("ScanMill$Row", "cs", "[I", true)
  | _ => ("ScanMill$Row", "count", "I", false)
def t_Row : Nat → FieldType := fun k => match k with
  | 0 => .array .int
  | 1 => .array .int
  | 2 => .array .int
  | 3 => .array .int
  | _ => .int
theorem n_Row : ∀ a, a < 5 → ∀ b, b < 5 → a ≠ b → (T_Row a).2.1 ≠ (T_Row b).2.1 := by decide +kernel
theorem t_Row_ok : ∀ k, k < 5 → parseFieldDescriptor (T_Row k).2.2.1 = some (t_Row k) := by decide +kernel
theorem i_Row : ∀ w ∈ u_ws R_Row T_Row 5, w ∈ wG := by decide +kernel
def R_Liv : String := "ScanMill$Liveness"
def T_Liv : u_T := fun k => match k with
  | 0 => ("ScanMill$Liveness", "ahead", "[I", true)
  | _ => ("ScanMill$Liveness", "stale", "Z", false)
def t_Liv : Nat → FieldType := fun k => match k with
  | 0 => .array .int
  | _ => .boolean
theorem n_Liv : ∀ a, a < 2 → ∀ b, b < 2 → a ≠ b → (T_Liv a).2.1 ≠ (T_Liv b).2.1 := by decide +kernel
theorem t_Liv_ok : ∀ k, k < 2 → parseFieldDescriptor (T_Liv k).2.2.1 = some (t_Liv k) := by decide +kernel
theorem i_Liv : ∀ w ∈ u_ws R_Liv T_Liv 2, w ∈ wG := by decide +kernel
def R_Plc : String := "ScanMill$Places"
def T_Plc : u_T := fun k => match k with
  | 0 => ("ScanMill$Places", "firsts", "[I", true)
  | 1 => ("ScanMill$Places", "lasts", "[I", true)
  | 2 => ("ScanMill$Places", "overCall", "[Z", true)
  | 3 => ("ScanMill$Places", "registers", "[I", true)
  | 4 => ("ScanMill$Places", "slots", "[I", true)
  | 5 => ("ScanMill$Places", "order", "[I", true)
  | 6 => ("ScanMill$Places", "registerHolders", "[I", true)
  | 7 => ("ScanMill$Places", "slotHolders", "[I", true)
  | 8 => ("ScanMill$Places", "ordered", "I", false)
  | 9 => ("ScanMill$Places", "registerCount", "I", false)
  | _ => ("ScanMill$Places", "slotCount", "I", false)
def t_Plc : Nat → FieldType := fun k => match k with
  | 0 => .array .int
  | 1 => .array .int
  | 2 => .array .boolean
  | 3 => .array .int
  | 4 => .array .int
  | 5 => .array .int
  | 6 => .array .int
  | 7 => .array .int
  | 8 => .int
  | 9 => .int
  | _ => .int
theorem n_Plc : ∀ a, a < 11 → ∀ b, b < 11 → a ≠ b → (T_Plc a).2.1 ≠ (T_Plc b).2.1 := by decide +kernel
theorem t_Plc_ok : ∀ k, k < 11 → parseFieldDescriptor (T_Plc k).2.2.1 = some (t_Plc k) := by decide +kernel
theorem i_Plc : ∀ w ∈ u_ws R_Plc T_Plc 11, w ∈ wG := by decide +kernel
def R_Mac : String := "ScanMill$Machine"
def T_Mac : u_T := fun k => match k with
  | 0 => ("ScanMill$Machine", "registers", "[I", true)
  | 1 => ("ScanMill$Machine", "slots", "[I", true)
  | 2 => ("ScanMill$Machine", "outputs", "[I", true)
  | 3 => ("ScanMill$Machine", "next", "I", false)
  | 4 => ("ScanMill$Machine", "steps", "I", false)
  | 5 => ("ScanMill$Machine", "calls", "I", false)
  | _ => ("ScanMill$Machine", "putOut", "I", false)
def t_Mac : Nat → FieldType := fun k => match k with
  | 0 => .array .int
  | 1 => .array .int
  | 2 => .array .int
  | 3 => .int
  | 4 => .int
  | 5 => .int
  | _ => .int
theorem n_Mac : ∀ a, a < 7 → ∀ b, b < 7 → a ≠ b → (T_Mac a).2.1 ≠ (T_Mac b).2.1 := by decide +kernel
theorem t_Mac_ok : ∀ k, k < 7 → parseFieldDescriptor (T_Mac k).2.2.1 = some (t_Mac k) := by decide +kernel
theorem i_Mac : ∀ w ∈ u_ws R_Mac T_Mac 7, w ∈ wG := by decide +kernel
def R_Mill : String := "ScanMill"
def T_Mill : u_T := fun k => match k with
  | 0 => ("ScanMill", "row", "LScanMill$Row;", true)
  | 1 => ("ScanMill", "liveness", "LScanMill$Liveness;", true)
  | 2 => ("ScanMill", "places", "LScanMill$Places;", true)
  | 3 => ("ScanMill", "machine", "LScanMill$Machine;", true)
  | 4 => ("ScanMill", "registersWanted", "I", false)
  | 5 => ("ScanMill", "scanned", "Z", false)
  | _ => ("ScanMill", "running", "Z", false)
def t_Mill : Nat → FieldType := fun k => match k with
  | 0 => .object "ScanMill$Row"
  | 1 => .object "ScanMill$Liveness"
  | 2 => .object "ScanMill$Places"
  | 3 => .object "ScanMill$Machine"
  | 4 => .int
  | 5 => .boolean
  | _ => .boolean
theorem n_Mill : ∀ a, a < 7 → ∀ b, b < 7 → a ≠ b → (T_Mill a).2.1 ≠ (T_Mill b).2.1 := by decide +kernel
theorem t_Mill_ok : ∀ k, k < 7 → parseFieldDescriptor (T_Mill k).2.2.1 = some (t_Mill k) := by decide +kernel
theorem i_Mill : ∀ w ∈ u_ws R_Mill T_Mill 7, w ∈ wG := by decide +kernel
def R_Mod : String := "ScanMillModel"
def T_Mod : u_T := fun k => match k with
  | 0 => ("ScanMillModel", "thrown", "I", false)
  | 1 => ("ScanMillModel", "ops", "I", false)
  | 2 => ("ScanMillModel", "kind", "[I", true)
  | 3 => ("ScanMillModel", "a", "[I", true)
  | 4 => ("ScanMillModel", "b", "[I", true)
  | 5 => ("ScanMillModel", "c", "[I", true)
  | 6 => ("ScanMillModel", "wanted", "I", false)
  | 7 => ("ScanMillModel", "isScanned", "Z", false)
  | 8 => ("ScanMillModel", "registers", "I", false)
  | 9 => ("ScanMillModel", "slots", "I", false)
  | 10 => ("ScanMillModel", "first", "[I", true)
  | 11 => ("ScanMillModel", "last", "[I", true)
  | 12 => ("ScanMillModel", "is", "[Z", true)
  | 13 => ("ScanMillModel", "over", "[Z", true)
  | 14 => ("ScanMillModel", "register", "[I", true)
  | 15 => ("ScanMillModel", "slot", "[I", true)
  | 16 => ("ScanMillModel", "holder", "[I", true)
  | 17 => ("ScanMillModel", "state", "I", false)
  | 18 => ("ScanMillModel", "next", "I", false)
  | 19 => ("ScanMillModel", "steps", "I", false)
  | 20 => ("ScanMillModel", "calls", "I", false)
  | 21 => ("ScanMillModel", "outs", "I", false)
  | 22 => ("ScanMillModel", "output", "[I", true)
  | 23 => ("ScanMillModel", "inRegister", "[I", true)
  | 24 => ("ScanMillModel", "inSlot", "[I", true)
  | 25 => ("ScanMillModel", "ways", "I", false)
  | 26 => ("ScanMillModel", "way", "[I", true)
  | 27 => ("ScanMillModel", "seen", "[Z", true)
  | _ => ("ScanMillModel", "gone", "[Z", true)
def t_Mod : Nat → FieldType := fun k => match k with
  | 0 => .int
  | 1 => .int
  | 2 => .array .int
  | 3 => .array .int
  | 4 => .array .int
  | 5 => .array .int
  | 6 => .int
  | 7 => .boolean
  | 8 => .int
  | 9 => .int
  | 10 => .array .int
  | 11 => .array .int
  | 12 => .array .boolean
  | 13 => .array .boolean
  | 14 => .array .int
  | 15 => .array .int
  | 16 => .array .int
  | 17 => .int
  | 18 => .int
  | 19 => .int
  | 20 => .int
  | 21 => .int
  | 22 => .array .int
  | 23 => .array .int
  | 24 => .array .int
  | 25 => .int
  | 26 => .array .int
  | 27 => .array .boolean
  | _ => .array .boolean
theorem n_Mod : ∀ a, a < 29 → ∀ b, b < 29 → a ≠ b → (T_Mod a).2.1 ≠ (T_Mod b).2.1 := by decide +kernel
theorem t_Mod_ok : ∀ k, k < 29 → parseFieldDescriptor (T_Mod k).2.2.1 = some (t_Mod k) := by decide +kernel
theorem i_Mod : ∀ w ∈ u_ws R_Mod T_Mod 29, w ∈ wG := by decide +kernel
abbrev smC : List vw_C := [(R_Row, T_Row, 5), (R_Liv, T_Liv, 2), (R_Plc, T_Plc, 11), (R_Mac, T_Mac, 7), (R_Mill, T_Mill, 7), (R_Mod, T_Mod, 29)]
abbrev y_Mill_isValue : MethodName := ⟨"ScanMill", "isValue", "(I)Z"⟩
theorem d_Mill_isValue_0 : decode prog_1_method_18_code 0 = .ok (.iload_n 0, 1) := by decide +kernel
theorem d_Mill_isValue_1 : decode prog_1_method_18_code 1 = .ok (.ifCond .lt 13, 3) := by decide +kernel
theorem d_Mill_isValue_14 : decode prog_1_method_18_code 14 = .ok (.iconst 0, 1) := by decide +kernel
theorem d_Mill_isValue_15 : decode prog_1_method_18_code 15 = .ok (.ireturn, 1) := by decide +kernel
theorem d_Mill_isValue_4 : decode prog_1_method_18_code 4 = .ok (.iload_n 0, 1) := by decide +kernel
theorem d_Mill_isValue_5 : decode prog_1_method_18_code 5 = .ok (.bipush 24, 2) := by decide +kernel
theorem d_Mill_isValue_7 : decode prog_1_method_18_code 7 = .ok (.if_icmp .ge 7, 3) := by decide +kernel
theorem d_Mill_isValue_10 : decode prog_1_method_18_code 10 = .ok (.iconst 1, 1) := by decide +kernel
theorem d_Mill_isValue_11 : decode prog_1_method_18_code 11 = .ok (.goto 4, 3) := by decide +kernel
set_option maxRecDepth 100000 in
set_option maxHeartbeats 4000000 in
theorem c_Mill_isValue {l : Launch} {dC : Nat → ClassId} {dI : Nat → Nat → Nat} {cI cZ : ClassId} {v : Int32}  : sm_I l y_Mill_isValue prog_1_method_18_code 1 (some .boolean) (rmF 0 0) (dC, dI) smC [(cI, .int), (cZ, .boolean)] [.int v] [] (fun q w2 => q = (b2i (inB v 24)) ∧ w2 = []) := by
  refine sm_I.mk (by decide) (Nat.le_of_ble_eq_true rfl) ?_
  intro p e s m below meth c A H locs ls hx hb hr ht hown hlocks hml hnm hP hK hD hA hS hN hl
  have hl : lv_has ls 1 [(0, .int v)] := hl
  refine lv_iload_n hx hb d_Mill_isValue_0 rfl (lv_at hl 0 rfl) ?_
  refine lv_if_lt (tgt := 14) hx hb d_Mill_isValue_1 (by decide) (fun c_1 => ?_) (fun c_1 => ?_)
  · skip
    refine lv_iconst (v := 0) hx hb d_Mill_isValue_14 (by decide) ?_
    refine sm_rz (v := (0 : Int32)) (ws := []) hx hb hr hlocks hK (hP.sub [] rfl) (hD.sub [] (by decide) rfl) hS (by decide) ?_ d_Mill_isValue_15
    exact ⟨by rw [in_lo c_1]; rfl, rfl⟩
  · skip
    refine lv_iload_n hx hb d_Mill_isValue_4 rfl (lv_at hl 0 rfl) ?_
    refine lv_bipush (v := 24) hx hb d_Mill_isValue_5 (by decide) ?_
    refine lv_icmp_ge (tgt := 14) hx hb d_Mill_isValue_7 (by decide) (fun c_7 => ?_) (fun c_7 => ?_)
    · skip
      refine lv_iconst (v := 0) hx hb d_Mill_isValue_14 (by decide) ?_
      refine sm_rz (v := (0 : Int32)) (ws := []) hx hb hr hlocks hK (hP.sub [] rfl) (hD.sub [] (by decide) rfl) hS (by decide) ?_ d_Mill_isValue_15
      exact ⟨by rw [in_hi (M := 24) (by decide) c_7]; rfl, rfl⟩
    · skip
      refine lv_iconst (v := 1) hx hb d_Mill_isValue_10 (by decide) ?_
      refine lv_goto (tgt := 15) hx hb d_Mill_isValue_11 (by decide) ?_
      refine sm_rz (v := (1 : Int32)) (ws := []) hx hb hr hlocks hK (hP.sub [] rfl) (hD.sub [] (by decide) rfl) hS (by decide) ?_ d_Mill_isValue_15
      exact ⟨by rw [in_ge (M := 24) (by decide) c_1 c_7]; rfl, rfl⟩
abbrev y_Mill_isTarget : MethodName := ⟨"ScanMill", "isTarget", "(I)Z"⟩
theorem d_Mill_isTarget_0 : decode prog_1_method_19_code 0 = .ok (.iload_n 0, 1) := by decide +kernel
theorem d_Mill_isTarget_1 : decode prog_1_method_19_code 1 = .ok (.ifCond .lt 13, 3) := by decide +kernel
theorem d_Mill_isTarget_14 : decode prog_1_method_19_code 14 = .ok (.iconst 0, 1) := by decide +kernel
theorem d_Mill_isTarget_15 : decode prog_1_method_19_code 15 = .ok (.ireturn, 1) := by decide +kernel
theorem d_Mill_isTarget_4 : decode prog_1_method_19_code 4 = .ok (.iload_n 0, 1) := by decide +kernel
theorem d_Mill_isTarget_5 : decode prog_1_method_19_code 5 = .ok (.bipush 60, 2) := by decide +kernel
theorem d_Mill_isTarget_7 : decode prog_1_method_19_code 7 = .ok (.if_icmp .gt 7, 3) := by decide +kernel
theorem d_Mill_isTarget_10 : decode prog_1_method_19_code 10 = .ok (.iconst 1, 1) := by decide +kernel
theorem d_Mill_isTarget_11 : decode prog_1_method_19_code 11 = .ok (.goto 4, 3) := by decide +kernel
set_option maxRecDepth 100000 in
set_option maxHeartbeats 4000000 in
theorem c_Mill_isTarget {l : Launch} {dC : Nat → ClassId} {dI : Nat → Nat → Nat} {cI cZ : ClassId} {v : Int32}  : sm_I l y_Mill_isTarget prog_1_method_19_code 1 (some .boolean) (rmF 0 0) (dC, dI) smC [(cI, .int), (cZ, .boolean)] [.int v] [] (fun q w2 => q = (b2i (inB v 61)) ∧ w2 = []) := by
  refine sm_I.mk (by decide) (Nat.le_of_ble_eq_true rfl) ?_
  intro p e s m below meth c A H locs ls hx hb hr ht hown hlocks hml hnm hP hK hD hA hS hN hl
  have hl : lv_has ls 1 [(0, .int v)] := hl
  refine lv_iload_n hx hb d_Mill_isTarget_0 rfl (lv_at hl 0 rfl) ?_
  refine lv_if_lt (tgt := 14) hx hb d_Mill_isTarget_1 (by decide) (fun c_1 => ?_) (fun c_1 => ?_)
  · skip
    refine lv_iconst (v := 0) hx hb d_Mill_isTarget_14 (by decide) ?_
    refine sm_rz (v := (0 : Int32)) (ws := []) hx hb hr hlocks hK (hP.sub [] rfl) (hD.sub [] (by decide) rfl) hS (by decide) ?_ d_Mill_isTarget_15
    exact ⟨by rw [in_lo c_1]; rfl, rfl⟩
  · skip
    refine lv_iload_n hx hb d_Mill_isTarget_4 rfl (lv_at hl 0 rfl) ?_
    refine lv_bipush (v := 60) hx hb d_Mill_isTarget_5 (by decide) ?_
    refine lv_icmp_gt (tgt := 14) hx hb d_Mill_isTarget_7 (by decide) (fun c_7 => ?_) (fun c_7 => ?_)
    · skip
      refine lv_iconst (v := 0) hx hb d_Mill_isTarget_14 (by decide) ?_
      refine sm_rz (v := (0 : Int32)) (ws := []) hx hb hr hlocks hK (hP.sub [] rfl) (hD.sub [] (by decide) rfl) hS (by decide) ?_ d_Mill_isTarget_15
      exact ⟨by rw [in_hg (M := 60) (by decide) c_7]; rfl, rfl⟩
    · skip
      refine lv_iconst (v := 1) hx hb d_Mill_isTarget_10 (by decide) ?_
      refine lv_goto (tgt := 15) hx hb d_Mill_isTarget_11 (by decide) ?_
      refine sm_rz (v := (1 : Int32)) (ws := []) hx hb hr hlocks hK (hP.sub [] rfl) (hD.sub [] (by decide) rfl) hS (by decide) ?_ d_Mill_isTarget_15
      exact ⟨by rw [in_gt (M := 60) (by decide) c_1 c_7]; rfl, rfl⟩
abbrev y_Mill_placeOrNoAnswer : MethodName := ⟨"ScanMill", "placeOrNoAnswer", "(I)I"⟩
theorem d_Mill_placeOrNoAnswer_0 : decode prog_1_method_17_code 0 = .ok (.iload_n 0, 1) := by decide +kernel
theorem d_Mill_placeOrNoAnswer_1 : decode prog_1_method_17_code 1 = .ok (.iconst (-1), 1) := by decide +kernel
theorem d_Mill_placeOrNoAnswer_2 : decode prog_1_method_17_code 2 = .ok (.if_icmp .ne 8, 3) := by decide +kernel
theorem d_Mill_placeOrNoAnswer_10 : decode prog_1_method_17_code 10 = .ok (.iload_n 0, 1) := by decide +kernel
theorem d_Mill_placeOrNoAnswer_11 : decode prog_1_method_17_code 11 = .ok (.ireturn, 1) := by decide +kernel
theorem d_Mill_placeOrNoAnswer_5 : decode prog_1_method_17_code 5 = .ok (.bipush (-9), 2) := by decide +kernel
theorem d_Mill_placeOrNoAnswer_7 : decode prog_1_method_17_code 7 = .ok (.goto 4, 3) := by decide +kernel
set_option maxRecDepth 100000 in
set_option maxHeartbeats 4000000 in
theorem c_Mill_placeOrNoAnswer {l : Launch} {dC : Nat → ClassId} {dI : Nat → Nat → Nat} {cI cZ : ClassId} {v : Int32}  : sm_I l y_Mill_placeOrNoAnswer prog_1_method_17_code 1 (some .int) (rmF 0 0) (dC, dI) smC [(cI, .int), (cZ, .boolean)] [.int v] [] (fun q w2 => q = (if v = -1 then -9 else v) ∧ w2 = []) := by
  refine sm_I.mk (by decide) (Nat.le_of_ble_eq_true rfl) ?_
  intro p e s m below meth c A H locs ls hx hb hr ht hown hlocks hml hnm hP hK hD hA hS hN hl
  have hl : lv_has ls 1 [(0, .int v)] := hl
  refine lv_iload_n hx hb d_Mill_placeOrNoAnswer_0 rfl (lv_at hl 0 rfl) ?_
  refine lv_iconst (v := -1) hx hb d_Mill_placeOrNoAnswer_1 (by decide) ?_
  refine lv_icmp_ne (tgt := 10) hx hb d_Mill_placeOrNoAnswer_2 (by decide) (fun c_2 => ?_) (fun c_2 => ?_)
  · skip
    refine lv_iload_n hx hb d_Mill_placeOrNoAnswer_10 rfl (lv_at hl 0 rfl) ?_
    refine sm_ri (v := v) (ws := []) hx hb hr hlocks hK (hP.sub [] rfl) (hD.sub [] (by decide) rfl) hS ?_ d_Mill_placeOrNoAnswer_11
    exact ⟨by simp [c_2], rfl⟩
  · skip
    refine lv_bipush (v := -9) hx hb d_Mill_placeOrNoAnswer_5 (by decide) ?_
    refine lv_goto (tgt := 11) hx hb d_Mill_placeOrNoAnswer_7 (by decide) ?_
    refine sm_ri (v := (-9 : Int32)) (ws := []) hx hb hr hlocks hK (hP.sub [] rfl) (hD.sub [] (by decide) rfl) hS ?_ d_Mill_placeOrNoAnswer_11
    exact ⟨by simp [c_2], rfl⟩
abbrev y_Row_size : MethodName := ⟨"ScanMill$Row", "size", "()I"⟩
theorem d_Row_size_0 : decode prog_5_method_2_code 0 = .ok (.aload_n 0, 1) := by decide +kernel
theorem d_Row_size_1 : decode prog_5_method_2_code 1 = .ok (.getfield 24, 3) := by decide +kernel
theorem mw_33 : Cond.fieldLink "ScanMill$Row" 24 "ScanMill$Row" "count" "I" ∈ wG := wG_t 33 (by decide +kernel) (by decide +kernel)
theorem d_Row_size_4 : decode prog_5_method_2_code 4 = .ok (.ireturn, 1) := by decide +kernel
set_option maxRecDepth 100000 in
set_option maxHeartbeats 4000000 in
theorem c_Row_size {l : Launch} {dC : Nat → ClassId} {dI : Nat → Nat → Nat} {cI cZ : ClassId} {r rk ra rb rc n : Nat} {fk fa fb fc : Nat → Int32}  : sm_I l y_Row_size prog_5_method_2_code 1 (some .int) (rmF 0 0) (dC, dI) smC [(cI, .int), (cZ, .boolean)] [.ref r] [(r, .inr (0, [.ref rk, .ref ra, .ref rb, .ref rc, .int (nI n)])), (rk, .inl (cI, 60, .inl fk)), (ra, .inl (cI, 60, .inl fa)), (rb, .inl (cI, 60, .inl fb)), (rc, .inl (cI, 60, .inl fc))] (fun q w2 => q = (nI n) ∧ w2 = [(r, .inr (0, [.ref rk, .ref ra, .ref rb, .ref rc, .int (nI n)])), (rk, .inl (cI, 60, .inl fk)), (ra, .inl (cI, 60, .inl fa)), (rb, .inl (cI, 60, .inl fb)), (rc, .inl (cI, 60, .inl fc))]) := by
  refine sm_I.mk (by decide) (Nat.le_of_ble_eq_true rfl) ?_
  intro p e s m below meth c A H locs ls hx hb hr ht hown hlocks hml hnm hP hK hD hA hS hN hl
  have hl : lv_has ls 1 [(0, .ref r)] := hl
  refine lv_aload_n hx hb d_Row_size_0 rfl (lv_at hl 0 rfl) ?_
  refine va_get (D := (dC, dI)) (ci := 0) (v := .int (nI n)) (C := R_Row) (T := T_Row) (N := 5) hx hb ht i_Row hown hK hP 0 rfl rfl 4 (by decide) (ht _ mw_33) (fun _ h9 => h9) rfl d_Row_size_1 ?_
  refine sm_ri (v := nI n) (ws := [(r, .inr (0, [.ref rk, .ref ra, .ref rb, .ref rc, .int (nI n)])), (rk, .inl (cI, 60, .inl fk)), (ra, .inl (cI, 60, .inl fa)), (rb, .inl (cI, 60, .inl fb)), (rc, .inl (cI, 60, .inl fc))]) hx hb hr hlocks hK (hP.sub [0, 1, 2, 3, 4] rfl) (hD.sub [0, 1, 2, 3, 4] (by decide) rfl) hS ?_ d_Row_size_4
  exact ⟨rfl, rfl⟩
abbrev y_Row_empty : MethodName := ⟨"ScanMill$Row", "empty", "()V"⟩
theorem d_Row_empty_0 : decode prog_5_method_3_code 0 = .ok (.aload_n 0, 1) := by decide +kernel
theorem d_Row_empty_1 : decode prog_5_method_3_code 1 = .ok (.iconst 0, 1) := by decide +kernel
theorem d_Row_empty_2 : decode prog_5_method_3_code 2 = .ok (.putfield 24, 3) := by decide +kernel
theorem d_Row_empty_5 : decode prog_5_method_3_code 5 = .ok (.return_, 1) := by decide +kernel
set_option maxRecDepth 100000 in
set_option maxHeartbeats 4000000 in
theorem c_Row_empty {l : Launch} {dC : Nat → ClassId} {dI : Nat → Nat → Nat} {cI cZ : ClassId} {r rk ra rb rc n : Nat} {fk fa fb fc : Nat → Int32}  : sm_V l y_Row_empty prog_5_method_3_code 1 none (rmF 0 0) (dC, dI) smC [(cI, .int), (cZ, .boolean)] [.ref r] [(r, .inr (0, [.ref rk, .ref ra, .ref rb, .ref rc, .int (nI n)])), (rk, .inl (cI, 60, .inl fk)), (ra, .inl (cI, 60, .inl fa)), (rb, .inl (cI, 60, .inl fb)), (rc, .inl (cI, 60, .inl fc))] (fun w2 => w2 = [(r, .inr (0, [.ref rk, .ref ra, .ref rb, .ref rc, .int ((0 : Int32))])), (rk, .inl (cI, 60, .inl fk)), (ra, .inl (cI, 60, .inl fa)), (rb, .inl (cI, 60, .inl fb)), (rc, .inl (cI, 60, .inl fc))]) := by
  refine sm_V.mk (by decide) (Nat.le_of_ble_eq_true rfl) ?_
  intro p e s m below meth c A H locs ls hx hb hr ht hown hlocks hml hnm hP hK hD hA hS hN hl
  have hl : lv_has ls 1 [(0, .ref r)] := hl
  refine lv_aload_n hx hb d_Row_empty_0 rfl (lv_at hl 0 rfl) ?_
  refine lv_iconst (v := 0) hx hb d_Row_empty_1 (by decide) ?_
  refine va_put (D := (dC, dI)) (ci := 0) (v := .int ((0 : Int32))) (ty := .int) (C := R_Row) (T := T_Row) (N := 5) hx hb ht i_Row t_Row t_Row_ok n_Row hown hK hP hD hS 0 rfl rfl 4 (by decide) (ht _ mw_33) (fun _ h9 => h9) rfl (by decide +kernel) rfl rfl (Nat.le_of_ble_eq_true rfl) d_Row_empty_2 (fun H locs hP hD hS => ?_)
  have hP : va_P (dC, dI) smC [(r, .inr (0, [.ref rk, .ref ra, .ref rb, .ref rc, .int ((0 : Int32))])), (rk, .inl (cI, 60, .inl fk)), (ra, .inl (cI, 60, .inl fa)), (rb, .inl (cI, 60, .inl fb)), (rc, .inl (cI, 60, .inl fc))] H := hP
  have hD : va_D A [(r, .inr (0, [.ref rk, .ref ra, .ref rb, .ref rc, .int ((0 : Int32))])), (rk, .inl (cI, 60, .inl fk)), (ra, .inl (cI, 60, .inl fa)), (rb, .inl (cI, 60, .inl fb)), (rc, .inl (cI, 60, .inl fc))] := hD
  refine sm_rv (ws := [(r, .inr (0, [.ref rk, .ref ra, .ref rb, .ref rc, .int ((0 : Int32))])), (rk, .inl (cI, 60, .inl fk)), (ra, .inl (cI, 60, .inl fa)), (rb, .inl (cI, 60, .inl fb)), (rc, .inl (cI, 60, .inl fc))]) hx hb hr hlocks hK (hP.sub [0, 1, 2, 3, 4] rfl) (hD.sub [0, 1, 2, 3, 4] (by decide) rfl) hS ?_ d_Row_empty_5
  rfl
abbrev y_Row_holds : MethodName := ⟨"ScanMill$Row", "holds", "(I)Z"⟩
theorem d_Row_holds_0 : decode prog_5_method_11_code 0 = .ok (.iload_n 1, 1) := by decide +kernel
theorem d_Row_holds_1 : decode prog_5_method_11_code 1 = .ok (.ifCond .lt 15, 3) := by decide +kernel
theorem d_Row_holds_16 : decode prog_5_method_11_code 16 = .ok (.iconst 0, 1) := by decide +kernel
theorem d_Row_holds_17 : decode prog_5_method_11_code 17 = .ok (.ireturn, 1) := by decide +kernel
theorem d_Row_holds_4 : decode prog_5_method_11_code 4 = .ok (.iload_n 1, 1) := by decide +kernel
theorem d_Row_holds_5 : decode prog_5_method_11_code 5 = .ok (.aload_n 0, 1) := by decide +kernel
theorem d_Row_holds_6 : decode prog_5_method_11_code 6 = .ok (.getfield 24, 3) := by decide +kernel
theorem d_Row_holds_9 : decode prog_5_method_11_code 9 = .ok (.if_icmp .ge 7, 3) := by decide +kernel
theorem d_Row_holds_12 : decode prog_5_method_11_code 12 = .ok (.iconst 1, 1) := by decide +kernel
theorem d_Row_holds_13 : decode prog_5_method_11_code 13 = .ok (.goto 4, 3) := by decide +kernel
set_option maxRecDepth 100000 in
set_option maxHeartbeats 4000000 in
theorem c_Row_holds {l : Launch} {dC : Nat → ClassId} {dI : Nat → Nat → Nat} {cI cZ : ClassId} {r rk ra rb rc n : Nat} {fk fa fb fc : Nat → Int32} {k : Int32} (hn : n ≤ 60) : sm_I l y_Row_holds prog_5_method_11_code 2 (some .boolean) (rmF 0 0) (dC, dI) smC [(cI, .int), (cZ, .boolean)] [.ref r, .int k] [(r, .inr (0, [.ref rk, .ref ra, .ref rb, .ref rc, .int (nI n)])), (rk, .inl (cI, 60, .inl fk)), (ra, .inl (cI, 60, .inl fa)), (rb, .inl (cI, 60, .inl fb)), (rc, .inl (cI, 60, .inl fc))] (fun q w2 => q = (b2i (inB k n)) ∧ w2 = [(r, .inr (0, [.ref rk, .ref ra, .ref rb, .ref rc, .int (nI n)])), (rk, .inl (cI, 60, .inl fk)), (ra, .inl (cI, 60, .inl fa)), (rb, .inl (cI, 60, .inl fb)), (rc, .inl (cI, 60, .inl fc))]) := by
  refine sm_I.mk (by decide) (Nat.le_of_ble_eq_true rfl) ?_
  intro p e s m below meth c A H locs ls hx hb hr ht hown hlocks hml hnm hP hK hD hA hS hN hl
  have hl : lv_has ls 2 [(0, .ref r), (1, .int k)] := hl
  refine lv_iload_n hx hb d_Row_holds_0 rfl (lv_at hl 1 rfl) ?_
  refine lv_if_lt (tgt := 16) hx hb d_Row_holds_1 (by decide) (fun c_1 => ?_) (fun c_1 => ?_)
  · skip
    refine lv_iconst (v := 0) hx hb d_Row_holds_16 (by decide) ?_
    refine sm_rz (v := (0 : Int32)) (ws := [(r, .inr (0, [.ref rk, .ref ra, .ref rb, .ref rc, .int (nI n)])), (rk, .inl (cI, 60, .inl fk)), (ra, .inl (cI, 60, .inl fa)), (rb, .inl (cI, 60, .inl fb)), (rc, .inl (cI, 60, .inl fc))]) hx hb hr hlocks hK (hP.sub [0, 1, 2, 3, 4] rfl) (hD.sub [0, 1, 2, 3, 4] (by decide) rfl) hS (by decide) ?_ d_Row_holds_17
    exact ⟨by rw [in_lo c_1]; rfl, rfl⟩
  · skip
    refine lv_iload_n hx hb d_Row_holds_4 rfl (lv_at hl 1 rfl) ?_
    refine lv_aload_n hx hb d_Row_holds_5 rfl (lv_at hl 0 rfl) ?_
    refine va_get (D := (dC, dI)) (ci := 0) (v := .int (nI n)) (C := R_Row) (T := T_Row) (N := 5) hx hb ht i_Row hown hK hP 0 rfl rfl 4 (by decide) (ht _ mw_33) (fun _ h9 => h9) rfl d_Row_holds_6 ?_
    refine lv_icmp_ge (tgt := 16) hx hb d_Row_holds_9 (by decide) (fun c_9 => ?_) (fun c_9 => ?_)
    · skip
      refine lv_iconst (v := 0) hx hb d_Row_holds_16 (by decide) ?_
      refine sm_rz (v := (0 : Int32)) (ws := [(r, .inr (0, [.ref rk, .ref ra, .ref rb, .ref rc, .int (nI n)])), (rk, .inl (cI, 60, .inl fk)), (ra, .inl (cI, 60, .inl fa)), (rb, .inl (cI, 60, .inl fb)), (rc, .inl (cI, 60, .inl fc))]) hx hb hr hlocks hK (hP.sub [0, 1, 2, 3, 4] rfl) (hD.sub [0, 1, 2, 3, 4] (by decide) rfl) hS (by decide) ?_ d_Row_holds_17
      exact ⟨by rw [in_hi (M := nI n) (nI_toInt (by omega)) c_9]; rfl, rfl⟩
    · skip
      refine lv_iconst (v := 1) hx hb d_Row_holds_12 (by decide) ?_
      refine lv_goto (tgt := 17) hx hb d_Row_holds_13 (by decide) ?_
      refine sm_rz (v := (1 : Int32)) (ws := [(r, .inr (0, [.ref rk, .ref ra, .ref rb, .ref rc, .int (nI n)])), (rk, .inl (cI, 60, .inl fk)), (ra, .inl (cI, 60, .inl fa)), (rb, .inl (cI, 60, .inl fb)), (rc, .inl (cI, 60, .inl fc))]) hx hb hr hlocks hK (hP.sub [0, 1, 2, 3, 4] rfl) (hD.sub [0, 1, 2, 3, 4] (by decide) rfl) hS (by decide) ?_ d_Row_holds_17
      exact ⟨by rw [in_ge (M := nI n) (nI_toInt (by omega)) c_1 c_9]; rfl, rfl⟩
abbrev y_Row_kindAt : MethodName := ⟨"ScanMill$Row", "kindAt", "(I)I"⟩
theorem d_Row_kindAt_0 : decode prog_5_method_5_code 0 = .ok (.aload_n 0, 1) := by decide +kernel
theorem d_Row_kindAt_1 : decode prog_5_method_5_code 1 = .ok (.iload_n 1, 1) := by decide +kernel
theorem d_Row_kindAt_2 : decode prog_5_method_5_code 2 = .ok (.invokevirtual 32, 3) := by decide +kernel
theorem mw_221 : Cond.code ⟨"ScanMill$Row", "holds", "(I)Z"⟩ prog_5_method_11_code 2 (Option.some FieldType.boolean) ∈ wG := wG_t 221 (by decide +kernel) (by decide +kernel)
theorem mw_2 : Cond.initialized "ScanMill$Row" ∈ wG := wG_t 2 (by decide +kernel) (by decide +kernel)
theorem mw_218 : Cond.methodLink "ScanMill$Row" 32 ⟨"ScanMill$Row", "holds", "(I)Z"⟩ ∈ wG := wG_t 218 (by decide +kernel) (by decide +kernel)
theorem mw_220 : Cond.instanceMethod ⟨"ScanMill$Row", "holds", "(I)Z"⟩ ∈ wG := wG_t 220 (by decide +kernel) (by decide +kernel)
theorem mp_2 : Cond.selects "ScanMill$Row" ⟨"ScanMill$Row", "holds", "(I)Z"⟩ ⟨"ScanMill$Row", "holds", "(I)Z"⟩ ∈ wG := wG_p 2 (by decide +kernel) (by decide +kernel)
theorem d_Row_kindAt_5 : decode prog_5_method_5_code 5 = .ok (.ifCond .eq 12, 3) := by decide +kernel
theorem d_Row_kindAt_17 : decode prog_5_method_5_code 17 = .ok (.bipush 11, 2) := by decide +kernel
theorem d_Row_kindAt_19 : decode prog_5_method_5_code 19 = .ok (.ireturn, 1) := by decide +kernel
theorem d_Row_kindAt_8 : decode prog_5_method_5_code 8 = .ok (.aload_n 0, 1) := by decide +kernel
theorem d_Row_kindAt_9 : decode prog_5_method_5_code 9 = .ok (.getfield 9, 3) := by decide +kernel
theorem mw_29 : Cond.fieldLink "ScanMill$Row" 9 "ScanMill$Row" "kinds" "[I" ∈ wG := wG_t 29 (by decide +kernel) (by decide +kernel)
theorem d_Row_kindAt_12 : decode prog_5_method_5_code 12 = .ok (.iload_n 1, 1) := by decide +kernel
theorem d_Row_kindAt_13 : decode prog_5_method_5_code 13 = .ok (.iaload, 1) := by decide +kernel
theorem d_Row_kindAt_14 : decode prog_5_method_5_code 14 = .ok (.goto 5, 3) := by decide +kernel
set_option maxRecDepth 100000 in
set_option maxHeartbeats 4000000 in
theorem c_Row_kindAt {l : Launch} {dC : Nat → ClassId} {dI : Nat → Nat → Nat} {cI cZ : ClassId} {r rk ra rb rc n : Nat} {fk fa fb fc : Nat → Int32} {k : Int32} (hn : n ≤ 60) : sm_I l y_Row_kindAt prog_5_method_5_code 2 (some .int) (rmF 1 21) (dC, dI) smC [(cI, .int), (cZ, .boolean)] [.ref r, .int k] [(r, .inr (0, [.ref rk, .ref ra, .ref rb, .ref rc, .int (nI n)])), (rk, .inl (cI, 60, .inl fk)), (ra, .inl (cI, 60, .inl fa)), (rb, .inl (cI, 60, .inl fb)), (rc, .inl (cI, 60, .inl fc))] (fun q w2 => q = (kA n fk k) ∧ w2 = [(r, .inr (0, [.ref rk, .ref ra, .ref rb, .ref rc, .int (nI n)])), (rk, .inl (cI, 60, .inl fk)), (ra, .inl (cI, 60, .inl fa)), (rb, .inl (cI, 60, .inl fb)), (rc, .inl (cI, 60, .inl fc))]) := by
  refine sm_I.mk (by decide) (Nat.le_of_ble_eq_true rfl) ?_
  intro p e s m below meth c A H locs ls hx hb hr ht hown hlocks hml hnm hP hK hD hA hS hN hl
  have hl : lv_has ls 2 [(0, .ref r), (1, .int k)] := hl
  refine lv_aload_n hx hb d_Row_kindAt_0 rfl (lv_at hl 0 rfl) ?_
  refine lv_iload_n hx hb d_Row_kindAt_1 rfl (lv_at hl 1 rfl) ?_
  refine sm_goi (wc := [(r, .inr (0, [.ref rk, .ref ra, .ref rb, .ref rc, .int (nI n)])), (rk, .inl (cI, 60, .inl fk)), (ra, .inl (cI, 60, .inl fa)), (rb, .inl (cI, 60, .inl fb)), (rc, .inl (cI, 60, .inl fc))]) (wr := []) (va_runV (As := [.int k]) (rest := []) ⟨hx, hb, hml, hown, ht⟩ ((c_Row_holds (l := l) (dC := dC) (dI := dI) (cI := cI) (cZ := cZ) (r := r) (rk := rk) (ra := ra) (rb := rb) (rc := rc) (n := n) (fk := fk) (fa := fa) (fb := fb) (fc := fc) (k := k) (by first | assumption | omega)).at H.size) (sm_cV 1 ht mw_221 mw_2 mw_218 mw_220 mp_2 rfl rfl (by decide +kernel) ⟨Nat.le_of_ble_eq_true rfl, Nat.le_of_ble_eq_true rfl⟩) (sm_preV (ci := 0) hN hK hP hD [0, 1, 2, 3, 4] rfl rfl (by decide) 0 rfl rfl) rfl rfl hl.1 rfl (lv_room (Nat.le_of_ble_eq_true rfl)) d_Row_kindAt_2 ⟨Nat.zero_le _, Nat.zero_le _⟩) hP hD hS hA [0, 1, 2, 3, 4] [] rfl rfl (by decide) (by decide) (fun r_2 w_2 H locs q_2 hP hD hS => ?_)
  obtain ⟨rfl, rfl⟩ := q_2
  have hP : va_P (dC, dI) smC [(r, .inr (0, [.ref rk, .ref ra, .ref rb, .ref rc, .int (nI n)])), (rk, .inl (cI, 60, .inl fk)), (ra, .inl (cI, 60, .inl fa)), (rb, .inl (cI, 60, .inl fb)), (rc, .inl (cI, 60, .inl fc))] H := hP
  have hD : va_D A [(r, .inr (0, [.ref rk, .ref ra, .ref rb, .ref rc, .int (nI n)])), (rk, .inl (cI, 60, .inl fk)), (ra, .inl (cI, 60, .inl fa)), (rb, .inl (cI, 60, .inl fb)), (rc, .inl (cI, 60, .inl fc))] := hD
  refine lv_if_eq (tgt := 17) hx hb d_Row_kindAt_5 (by decide) (fun c_5 => ?_) (fun c_5 => ?_)
  · skip
    have e_5 : (inB k n) = false := b2i_eq0 c_5
    refine lv_bipush (v := 11) hx hb d_Row_kindAt_17 (by decide) ?_
    refine sm_ri (v := (11 : Int32)) (ws := [(r, .inr (0, [.ref rk, .ref ra, .ref rb, .ref rc, .int (nI n)])), (rk, .inl (cI, 60, .inl fk)), (ra, .inl (cI, 60, .inl fa)), (rb, .inl (cI, 60, .inl fb)), (rc, .inl (cI, 60, .inl fc))]) hx hb hr hlocks hK (hP.sub [0, 1, 2, 3, 4] rfl) (hD.sub [0, 1, 2, 3, 4] (by decide) rfl) hS ?_ d_Row_kindAt_19
    exact ⟨by simp [kA, e_5], rfl⟩
  · skip
    have e_5 : (inB k n) = true := b2i_ne0 c_5
    refine lv_aload_n hx hb d_Row_kindAt_8 rfl (lv_at hl 0 rfl) ?_
    refine va_get (D := (dC, dI)) (ci := 0) (v := .ref rk) (C := R_Row) (T := T_Row) (N := 5) hx hb ht i_Row hown hK hP 0 rfl rfl 0 (by decide) (ht _ mw_29) (fun _ h9 => h9) rfl d_Row_kindAt_9 ?_
    refine lv_iload_n hx hb d_Row_kindAt_12 rfl (lv_at hl 1 rfl) ?_
    refine sm_iald (j := k.toNatClampNeg) hx hb hK hP 1 0 rfl rfl (sm_inB (inB_mono e_5 hn)) rfl d_Row_kindAt_13 ?_
    refine lv_goto (tgt := 19) hx hb d_Row_kindAt_14 (by decide) ?_
    refine sm_ri (v := fk k.toNatClampNeg) (ws := [(r, .inr (0, [.ref rk, .ref ra, .ref rb, .ref rc, .int (nI n)])), (rk, .inl (cI, 60, .inl fk)), (ra, .inl (cI, 60, .inl fa)), (rb, .inl (cI, 60, .inl fb)), (rc, .inl (cI, 60, .inl fc))]) hx hb hr hlocks hK (hP.sub [0, 1, 2, 3, 4] rfl) (hD.sub [0, 1, 2, 3, 4] (by decide) rfl) hS ?_ d_Row_kindAt_19
    exact ⟨by simp [kA, e_5], rfl⟩
abbrev y_Row_numberAt : MethodName := ⟨"ScanMill$Row", "numberAt", "(I)I"⟩
theorem d_Row_numberAt_0 : decode prog_5_method_6_code 0 = .ok (.aload_n 0, 1) := by decide +kernel
theorem d_Row_numberAt_1 : decode prog_5_method_6_code 1 = .ok (.iload_n 1, 1) := by decide +kernel
theorem d_Row_numberAt_2 : decode prog_5_method_6_code 2 = .ok (.invokevirtual 32, 3) := by decide +kernel
theorem d_Row_numberAt_5 : decode prog_5_method_6_code 5 = .ok (.ifCond .eq 12, 3) := by decide +kernel
theorem d_Row_numberAt_17 : decode prog_5_method_6_code 17 = .ok (.iconst 0, 1) := by decide +kernel
theorem d_Row_numberAt_18 : decode prog_5_method_6_code 18 = .ok (.ireturn, 1) := by decide +kernel
theorem d_Row_numberAt_8 : decode prog_5_method_6_code 8 = .ok (.aload_n 0, 1) := by decide +kernel
theorem d_Row_numberAt_9 : decode prog_5_method_6_code 9 = .ok (.getfield 18, 3) := by decide +kernel
theorem mw_31 : Cond.fieldLink "ScanMill$Row" 18 "ScanMill$Row" "bs" "[I" ∈ wG := wG_t 31 (by decide +kernel) (by decide +kernel)
theorem d_Row_numberAt_12 : decode prog_5_method_6_code 12 = .ok (.iload_n 1, 1) := by decide +kernel
theorem d_Row_numberAt_13 : decode prog_5_method_6_code 13 = .ok (.iaload, 1) := by decide +kernel
theorem d_Row_numberAt_14 : decode prog_5_method_6_code 14 = .ok (.goto 4, 3) := by decide +kernel
set_option maxRecDepth 100000 in
set_option maxHeartbeats 4000000 in
theorem c_Row_numberAt {l : Launch} {dC : Nat → ClassId} {dI : Nat → Nat → Nat} {cI cZ : ClassId} {r rk ra rb rc n : Nat} {fk fa fb fc : Nat → Int32} {k : Int32} (hn : n ≤ 60) : sm_I l y_Row_numberAt prog_5_method_6_code 2 (some .int) (rmF 1 21) (dC, dI) smC [(cI, .int), (cZ, .boolean)] [.ref r, .int k] [(r, .inr (0, [.ref rk, .ref ra, .ref rb, .ref rc, .int (nI n)])), (rk, .inl (cI, 60, .inl fk)), (ra, .inl (cI, 60, .inl fa)), (rb, .inl (cI, 60, .inl fb)), (rc, .inl (cI, 60, .inl fc))] (fun q w2 => q = (nA n fb k) ∧ w2 = [(r, .inr (0, [.ref rk, .ref ra, .ref rb, .ref rc, .int (nI n)])), (rk, .inl (cI, 60, .inl fk)), (ra, .inl (cI, 60, .inl fa)), (rb, .inl (cI, 60, .inl fb)), (rc, .inl (cI, 60, .inl fc))]) := by
  refine sm_I.mk (by decide) (Nat.le_of_ble_eq_true rfl) ?_
  intro p e s m below meth c A H locs ls hx hb hr ht hown hlocks hml hnm hP hK hD hA hS hN hl
  have hl : lv_has ls 2 [(0, .ref r), (1, .int k)] := hl
  refine lv_aload_n hx hb d_Row_numberAt_0 rfl (lv_at hl 0 rfl) ?_
  refine lv_iload_n hx hb d_Row_numberAt_1 rfl (lv_at hl 1 rfl) ?_
  refine sm_goi (wc := [(r, .inr (0, [.ref rk, .ref ra, .ref rb, .ref rc, .int (nI n)])), (rk, .inl (cI, 60, .inl fk)), (ra, .inl (cI, 60, .inl fa)), (rb, .inl (cI, 60, .inl fb)), (rc, .inl (cI, 60, .inl fc))]) (wr := []) (va_runV (As := [.int k]) (rest := []) ⟨hx, hb, hml, hown, ht⟩ ((c_Row_holds (l := l) (dC := dC) (dI := dI) (cI := cI) (cZ := cZ) (r := r) (rk := rk) (ra := ra) (rb := rb) (rc := rc) (n := n) (fk := fk) (fa := fa) (fb := fb) (fc := fc) (k := k) (by first | assumption | omega)).at H.size) (sm_cV 1 ht mw_221 mw_2 mw_218 mw_220 mp_2 rfl rfl (by decide +kernel) ⟨Nat.le_of_ble_eq_true rfl, Nat.le_of_ble_eq_true rfl⟩) (sm_preV (ci := 0) hN hK hP hD [0, 1, 2, 3, 4] rfl rfl (by decide) 0 rfl rfl) rfl rfl hl.1 rfl (lv_room (Nat.le_of_ble_eq_true rfl)) d_Row_numberAt_2 ⟨Nat.zero_le _, Nat.zero_le _⟩) hP hD hS hA [0, 1, 2, 3, 4] [] rfl rfl (by decide) (by decide) (fun r_2 w_2 H locs q_2 hP hD hS => ?_)
  obtain ⟨rfl, rfl⟩ := q_2
  have hP : va_P (dC, dI) smC [(r, .inr (0, [.ref rk, .ref ra, .ref rb, .ref rc, .int (nI n)])), (rk, .inl (cI, 60, .inl fk)), (ra, .inl (cI, 60, .inl fa)), (rb, .inl (cI, 60, .inl fb)), (rc, .inl (cI, 60, .inl fc))] H := hP
  have hD : va_D A [(r, .inr (0, [.ref rk, .ref ra, .ref rb, .ref rc, .int (nI n)])), (rk, .inl (cI, 60, .inl fk)), (ra, .inl (cI, 60, .inl fa)), (rb, .inl (cI, 60, .inl fb)), (rc, .inl (cI, 60, .inl fc))] := hD
  refine lv_if_eq (tgt := 17) hx hb d_Row_numberAt_5 (by decide) (fun c_5 => ?_) (fun c_5 => ?_)
  · skip
    have e_5 : (inB k n) = false := b2i_eq0 c_5
    refine lv_iconst (v := 0) hx hb d_Row_numberAt_17 (by decide) ?_
    refine sm_ri (v := (0 : Int32)) (ws := [(r, .inr (0, [.ref rk, .ref ra, .ref rb, .ref rc, .int (nI n)])), (rk, .inl (cI, 60, .inl fk)), (ra, .inl (cI, 60, .inl fa)), (rb, .inl (cI, 60, .inl fb)), (rc, .inl (cI, 60, .inl fc))]) hx hb hr hlocks hK (hP.sub [0, 1, 2, 3, 4] rfl) (hD.sub [0, 1, 2, 3, 4] (by decide) rfl) hS ?_ d_Row_numberAt_18
    exact ⟨by simp [nA, e_5], rfl⟩
  · skip
    have e_5 : (inB k n) = true := b2i_ne0 c_5
    refine lv_aload_n hx hb d_Row_numberAt_8 rfl (lv_at hl 0 rfl) ?_
    refine va_get (D := (dC, dI)) (ci := 0) (v := .ref rb) (C := R_Row) (T := T_Row) (N := 5) hx hb ht i_Row hown hK hP 0 rfl rfl 2 (by decide) (ht _ mw_31) (fun _ h9 => h9) rfl d_Row_numberAt_9 ?_
    refine lv_iload_n hx hb d_Row_numberAt_12 rfl (lv_at hl 1 rfl) ?_
    refine sm_iald (j := k.toNatClampNeg) hx hb hK hP 3 0 rfl rfl (sm_inB (inB_mono e_5 hn)) rfl d_Row_numberAt_13 ?_
    refine lv_goto (tgt := 18) hx hb d_Row_numberAt_14 (by decide) ?_
    refine sm_ri (v := fb k.toNatClampNeg) (ws := [(r, .inr (0, [.ref rk, .ref ra, .ref rb, .ref rc, .int (nI n)])), (rk, .inl (cI, 60, .inl fk)), (ra, .inl (cI, 60, .inl fa)), (rb, .inl (cI, 60, .inl fb)), (rc, .inl (cI, 60, .inl fc))]) hx hb hr hlocks hK (hP.sub [0, 1, 2, 3, 4] rfl) (hD.sub [0, 1, 2, 3, 4] (by decide) rfl) hS ?_ d_Row_numberAt_18
    exact ⟨by simp [nA, e_5], rfl⟩
abbrev y_Row_setAt : MethodName := ⟨"ScanMill$Row", "setAt", "(I)I"⟩
theorem d_Row_setAt_0 : decode prog_5_method_7_code 0 = .ok (.aload_n 0, 1) := by decide +kernel
theorem d_Row_setAt_1 : decode prog_5_method_7_code 1 = .ok (.iload_n 1, 1) := by decide +kernel
theorem d_Row_setAt_2 : decode prog_5_method_7_code 2 = .ok (.invokevirtual 36, 3) := by decide +kernel
theorem mw_217 : Cond.code ⟨"ScanMill$Row", "kindAt", "(I)I"⟩ prog_5_method_5_code 2 (Option.some FieldType.int) ∈ wG := wG_t 217 (by decide +kernel) (by decide +kernel)
theorem mw_214 : Cond.methodLink "ScanMill$Row" 36 ⟨"ScanMill$Row", "kindAt", "(I)I"⟩ ∈ wG := wG_t 214 (by decide +kernel) (by decide +kernel)
theorem mw_215 : Cond.instanceMethod ⟨"ScanMill$Row", "kindAt", "(I)I"⟩ ∈ wG := wG_t 215 (by decide +kernel) (by decide +kernel)
theorem mw_216 : Cond.selects "ScanMill$Row" ⟨"ScanMill$Row", "kindAt", "(I)I"⟩ ⟨"ScanMill$Row", "kindAt", "(I)I"⟩ ∈ wG := wG_t 216 (by decide +kernel) (by decide +kernel)
theorem d_Row_setAt_5 : decode prog_5_method_7_code 5 = .ok (.tableswitch 62 0 9 #[55, 55, 55, 55, 55, 55, 55, 62, 62, 55], 55) := by decide +kernel
theorem d_Row_setAt_60 : decode prog_5_method_7_code 60 = .ok (.aload_n 0, 1) := by decide +kernel
theorem d_Row_setAt_61 : decode prog_5_method_7_code 61 = .ok (.getfield 15, 3) := by decide +kernel
theorem mw_30 : Cond.fieldLink "ScanMill$Row" 15 "ScanMill$Row" "as" "[I" ∈ wG := wG_t 30 (by decide +kernel) (by decide +kernel)
theorem d_Row_setAt_64 : decode prog_5_method_7_code 64 = .ok (.iload_n 1, 1) := by decide +kernel
theorem d_Row_setAt_65 : decode prog_5_method_7_code 65 = .ok (.iaload, 1) := by decide +kernel
theorem d_Row_setAt_66 : decode prog_5_method_7_code 66 = .ok (.ireturn, 1) := by decide +kernel
theorem d_Row_setAt_67 : decode prog_5_method_7_code 67 = .ok (.iconst (-1), 1) := by decide +kernel
theorem d_Row_setAt_68 : decode prog_5_method_7_code 68 = .ok (.ireturn, 1) := by decide +kernel
set_option maxRecDepth 100000 in
set_option maxHeartbeats 4000000 in
theorem c_Row_setAt {l : Launch} {dC : Nat → ClassId} {dI : Nat → Nat → Nat} {cI cZ : ClassId} {r rk ra rb rc n : Nat} {fk fa fb fc : Nat → Int32} {k : Int32} (hn : n ≤ 60) : sm_I l y_Row_setAt prog_5_method_7_code 2 (some .int) (rmF 2 42) (dC, dI) smC [(cI, .int), (cZ, .boolean)] [.ref r, .int k] [(r, .inr (0, [.ref rk, .ref ra, .ref rb, .ref rc, .int (nI n)])), (rk, .inl (cI, 60, .inl fk)), (ra, .inl (cI, 60, .inl fa)), (rb, .inl (cI, 60, .inl fb)), (rc, .inl (cI, 60, .inl fc))] (fun q w2 => q = (sA n fk fa k) ∧ w2 = [(r, .inr (0, [.ref rk, .ref ra, .ref rb, .ref rc, .int (nI n)])), (rk, .inl (cI, 60, .inl fk)), (ra, .inl (cI, 60, .inl fa)), (rb, .inl (cI, 60, .inl fb)), (rc, .inl (cI, 60, .inl fc))]) := by
  refine sm_I.mk (by decide) (Nat.le_of_ble_eq_true rfl) ?_
  intro p e s m below meth c A H locs ls hx hb hr ht hown hlocks hml hnm hP hK hD hA hS hN hl
  have hl : lv_has ls 2 [(0, .ref r), (1, .int k)] := hl
  refine lv_aload_n hx hb d_Row_setAt_0 rfl (lv_at hl 0 rfl) ?_
  refine lv_iload_n hx hb d_Row_setAt_1 rfl (lv_at hl 1 rfl) ?_
  refine sm_goi (wc := [(r, .inr (0, [.ref rk, .ref ra, .ref rb, .ref rc, .int (nI n)])), (rk, .inl (cI, 60, .inl fk)), (ra, .inl (cI, 60, .inl fa)), (rb, .inl (cI, 60, .inl fb)), (rc, .inl (cI, 60, .inl fc))]) (wr := []) (va_runV (As := [.int k]) (rest := []) ⟨hx, hb, hml, hown, ht⟩ ((c_Row_kindAt (l := l) (dC := dC) (dI := dI) (cI := cI) (cZ := cZ) (r := r) (rk := rk) (ra := ra) (rb := rb) (rc := rc) (n := n) (fk := fk) (fa := fa) (fb := fb) (fc := fc) (k := k) (by first | assumption | omega)).at H.size) (sm_cV 1 ht mw_217 mw_2 mw_214 mw_215 mw_216 rfl rfl (by decide +kernel) ⟨Nat.le_of_ble_eq_true rfl, Nat.le_of_ble_eq_true rfl⟩) (sm_preV (ci := 0) hN hK hP hD [0, 1, 2, 3, 4] rfl rfl (by decide) 0 rfl rfl) rfl rfl hl.1 rfl (lv_room (Nat.le_of_ble_eq_true rfl)) d_Row_setAt_2 ⟨Nat.zero_le _, Nat.zero_le _⟩) hP hD hS hA [0, 1, 2, 3, 4] [] rfl rfl (by decide) (by decide) (fun r_2 w_2 H locs q_2 hP hD hS => ?_)
  obtain ⟨rfl, rfl⟩ := q_2
  have hP : va_P (dC, dI) smC [(r, .inr (0, [.ref rk, .ref ra, .ref rb, .ref rc, .int (nI n)])), (rk, .inl (cI, 60, .inl fk)), (ra, .inl (cI, 60, .inl fa)), (rb, .inl (cI, 60, .inl fb)), (rc, .inl (cI, 60, .inl fc))] H := hP
  have hD : va_D A [(r, .inr (0, [.ref rk, .ref ra, .ref rb, .ref rc, .int (nI n)])), (rk, .inl (cI, 60, .inl fk)), (ra, .inl (cI, 60, .inl fa)), (rb, .inl (cI, 60, .inl fb)), (rc, .inl (cI, 60, .inl fc))] := hD
  by_cases g_5_60 : (kA n fk k) = 0 ∨ (kA n fk k) = 1 ∨ (kA n fk k) = 2 ∨ (kA n fk k) = 3 ∨ (kA n fk k) = 4 ∨ (kA n fk k) = 5 ∨ (kA n fk k) = 6 ∨ (kA n fk k) = 9
  · skip
    refine sm_tab (tgt := 60) hx hb d_Row_setAt_5 (by rcases g_5_60 with h | h | h | h | h | h | h | h <;> (rw [h]; decide)) ?_
    refine lv_aload_n hx hb d_Row_setAt_60 rfl (lv_at hl 0 rfl) ?_
    refine va_get (D := (dC, dI)) (ci := 0) (v := .ref ra) (C := R_Row) (T := T_Row) (N := 5) hx hb ht i_Row hown hK hP 0 rfl rfl 1 (by decide) (ht _ mw_30) (fun _ h9 => h9) rfl d_Row_setAt_61 ?_
    refine lv_iload_n hx hb d_Row_setAt_64 rfl (lv_at hl 1 rfl) ?_
    refine sm_iald (j := k.toNatClampNeg) hx hb hK hP 2 0 rfl rfl (kA_vp hn (by rcases g_5_60 with h | h | h | h | h | h | h | h <;> (rw [h]; decide))) rfl d_Row_setAt_65 ?_
    refine sm_ri (v := fa k.toNatClampNeg) (ws := [(r, .inr (0, [.ref rk, .ref ra, .ref rb, .ref rc, .int (nI n)])), (rk, .inl (cI, 60, .inl fk)), (ra, .inl (cI, 60, .inl fa)), (rb, .inl (cI, 60, .inl fb)), (rc, .inl (cI, 60, .inl fc))]) hx hb hr hlocks hK (hP.sub [0, 1, 2, 3, 4] rfl) (hD.sub [0, 1, 2, 3, 4] (by decide) rfl) hS ?_ d_Row_setAt_66
    exact ⟨(if_pos g_5_60).symm, rfl⟩
  refine sm_tab (tgt := 67) hx hb d_Row_setAt_5 (sm_tabD [0, 1, 2, 3, 4, 5, 6, 9] ⟨fun z => g_5_60 (Or.inl z), fun z => g_5_60 (Or.inr (Or.inl z)), fun z => g_5_60 (Or.inr (Or.inr (Or.inl z))), fun z => g_5_60 (Or.inr (Or.inr (Or.inr (Or.inl z)))), fun z => g_5_60 (Or.inr (Or.inr (Or.inr (Or.inr (Or.inl z))))), fun z => g_5_60 (Or.inr (Or.inr (Or.inr (Or.inr (Or.inr (Or.inl z)))))), fun z => g_5_60 (Or.inr (Or.inr (Or.inr (Or.inr (Or.inr (Or.inr (Or.inl z))))))), fun z => g_5_60 (Or.inr (Or.inr (Or.inr (Or.inr (Or.inr (Or.inr (Or.inr (z)))))))), trivial⟩ (by decide) (by decide)) ?_
  refine lv_iconst (v := -1) hx hb d_Row_setAt_67 (by decide) ?_
  refine sm_ri (v := (-1 : Int32)) (ws := [(r, .inr (0, [.ref rk, .ref ra, .ref rb, .ref rc, .int (nI n)])), (rk, .inl (cI, 60, .inl fk)), (ra, .inl (cI, 60, .inl fa)), (rb, .inl (cI, 60, .inl fb)), (rc, .inl (cI, 60, .inl fc))]) hx hb hr hlocks hK (hP.sub [0, 1, 2, 3, 4] rfl) (hD.sub [0, 1, 2, 3, 4] (by decide) rfl) hS ?_ d_Row_setAt_68
  exact ⟨(if_neg g_5_60).symm, rfl⟩
abbrev y_Row_leftAt : MethodName := ⟨"ScanMill$Row", "leftAt", "(I)I"⟩
theorem d_Row_leftAt_0 : decode prog_5_method_8_code 0 = .ok (.aload_n 0, 1) := by decide +kernel
theorem d_Row_leftAt_1 : decode prog_5_method_8_code 1 = .ok (.iload_n 1, 1) := by decide +kernel
theorem d_Row_leftAt_2 : decode prog_5_method_8_code 2 = .ok (.invokevirtual 36, 3) := by decide +kernel
theorem d_Row_leftAt_5 : decode prog_5_method_8_code 5 = .ok (.tableswitch 69 1 10 #[55, 55, 55, 55, 55, 55, 69, 62, 69, 62], 55) := by decide +kernel
theorem d_Row_leftAt_60 : decode prog_5_method_8_code 60 = .ok (.aload_n 0, 1) := by decide +kernel
theorem d_Row_leftAt_61 : decode prog_5_method_8_code 61 = .ok (.getfield 18, 3) := by decide +kernel
theorem d_Row_leftAt_64 : decode prog_5_method_8_code 64 = .ok (.iload_n 1, 1) := by decide +kernel
theorem d_Row_leftAt_65 : decode prog_5_method_8_code 65 = .ok (.iaload, 1) := by decide +kernel
theorem d_Row_leftAt_66 : decode prog_5_method_8_code 66 = .ok (.ireturn, 1) := by decide +kernel
theorem d_Row_leftAt_67 : decode prog_5_method_8_code 67 = .ok (.aload_n 0, 1) := by decide +kernel
theorem d_Row_leftAt_68 : decode prog_5_method_8_code 68 = .ok (.getfield 15, 3) := by decide +kernel
theorem d_Row_leftAt_71 : decode prog_5_method_8_code 71 = .ok (.iload_n 1, 1) := by decide +kernel
theorem d_Row_leftAt_72 : decode prog_5_method_8_code 72 = .ok (.iaload, 1) := by decide +kernel
theorem d_Row_leftAt_73 : decode prog_5_method_8_code 73 = .ok (.ireturn, 1) := by decide +kernel
theorem d_Row_leftAt_74 : decode prog_5_method_8_code 74 = .ok (.iconst (-1), 1) := by decide +kernel
theorem d_Row_leftAt_75 : decode prog_5_method_8_code 75 = .ok (.ireturn, 1) := by decide +kernel
set_option maxRecDepth 100000 in
set_option maxHeartbeats 4000000 in
theorem c_Row_leftAt {l : Launch} {dC : Nat → ClassId} {dI : Nat → Nat → Nat} {cI cZ : ClassId} {r rk ra rb rc n : Nat} {fk fa fb fc : Nat → Int32} {k : Int32} (hn : n ≤ 60) : sm_I l y_Row_leftAt prog_5_method_8_code 2 (some .int) (rmF 2 42) (dC, dI) smC [(cI, .int), (cZ, .boolean)] [.ref r, .int k] [(r, .inr (0, [.ref rk, .ref ra, .ref rb, .ref rc, .int (nI n)])), (rk, .inl (cI, 60, .inl fk)), (ra, .inl (cI, 60, .inl fa)), (rb, .inl (cI, 60, .inl fb)), (rc, .inl (cI, 60, .inl fc))] (fun q w2 => q = (lA n fk fa fb k) ∧ w2 = [(r, .inr (0, [.ref rk, .ref ra, .ref rb, .ref rc, .int (nI n)])), (rk, .inl (cI, 60, .inl fk)), (ra, .inl (cI, 60, .inl fa)), (rb, .inl (cI, 60, .inl fb)), (rc, .inl (cI, 60, .inl fc))]) := by
  refine sm_I.mk (by decide) (Nat.le_of_ble_eq_true rfl) ?_
  intro p e s m below meth c A H locs ls hx hb hr ht hown hlocks hml hnm hP hK hD hA hS hN hl
  have hl : lv_has ls 2 [(0, .ref r), (1, .int k)] := hl
  refine lv_aload_n hx hb d_Row_leftAt_0 rfl (lv_at hl 0 rfl) ?_
  refine lv_iload_n hx hb d_Row_leftAt_1 rfl (lv_at hl 1 rfl) ?_
  refine sm_goi (wc := [(r, .inr (0, [.ref rk, .ref ra, .ref rb, .ref rc, .int (nI n)])), (rk, .inl (cI, 60, .inl fk)), (ra, .inl (cI, 60, .inl fa)), (rb, .inl (cI, 60, .inl fb)), (rc, .inl (cI, 60, .inl fc))]) (wr := []) (va_runV (As := [.int k]) (rest := []) ⟨hx, hb, hml, hown, ht⟩ ((c_Row_kindAt (l := l) (dC := dC) (dI := dI) (cI := cI) (cZ := cZ) (r := r) (rk := rk) (ra := ra) (rb := rb) (rc := rc) (n := n) (fk := fk) (fa := fa) (fb := fb) (fc := fc) (k := k) (by first | assumption | omega)).at H.size) (sm_cV 1 ht mw_217 mw_2 mw_214 mw_215 mw_216 rfl rfl (by decide +kernel) ⟨Nat.le_of_ble_eq_true rfl, Nat.le_of_ble_eq_true rfl⟩) (sm_preV (ci := 0) hN hK hP hD [0, 1, 2, 3, 4] rfl rfl (by decide) 0 rfl rfl) rfl rfl hl.1 rfl (lv_room (Nat.le_of_ble_eq_true rfl)) d_Row_leftAt_2 ⟨Nat.zero_le _, Nat.zero_le _⟩) hP hD hS hA [0, 1, 2, 3, 4] [] rfl rfl (by decide) (by decide) (fun r_2 w_2 H locs q_2 hP hD hS => ?_)
  obtain ⟨rfl, rfl⟩ := q_2
  have hP : va_P (dC, dI) smC [(r, .inr (0, [.ref rk, .ref ra, .ref rb, .ref rc, .int (nI n)])), (rk, .inl (cI, 60, .inl fk)), (ra, .inl (cI, 60, .inl fa)), (rb, .inl (cI, 60, .inl fb)), (rc, .inl (cI, 60, .inl fc))] H := hP
  have hD : va_D A [(r, .inr (0, [.ref rk, .ref ra, .ref rb, .ref rc, .int (nI n)])), (rk, .inl (cI, 60, .inl fk)), (ra, .inl (cI, 60, .inl fa)), (rb, .inl (cI, 60, .inl fb)), (rc, .inl (cI, 60, .inl fc))] := hD
  by_cases g_5_60 : (kA n fk k) = 1 ∨ (kA n fk k) = 2 ∨ (kA n fk k) = 3 ∨ (kA n fk k) = 4 ∨ (kA n fk k) = 5 ∨ (kA n fk k) = 6
  · skip
    refine sm_tab (tgt := 60) hx hb d_Row_leftAt_5 (by rcases g_5_60 with h | h | h | h | h | h <;> (rw [h]; decide)) ?_
    refine lv_aload_n hx hb d_Row_leftAt_60 rfl (lv_at hl 0 rfl) ?_
    refine va_get (D := (dC, dI)) (ci := 0) (v := .ref rb) (C := R_Row) (T := T_Row) (N := 5) hx hb ht i_Row hown hK hP 0 rfl rfl 2 (by decide) (ht _ mw_31) (fun _ h9 => h9) rfl d_Row_leftAt_61 ?_
    refine lv_iload_n hx hb d_Row_leftAt_64 rfl (lv_at hl 1 rfl) ?_
    refine sm_iald (j := k.toNatClampNeg) hx hb hK hP 3 0 rfl rfl (kA_vp hn (by rcases g_5_60 with h | h | h | h | h | h <;> (rw [h]; decide))) rfl d_Row_leftAt_65 ?_
    refine sm_ri (v := fb k.toNatClampNeg) (ws := [(r, .inr (0, [.ref rk, .ref ra, .ref rb, .ref rc, .int (nI n)])), (rk, .inl (cI, 60, .inl fk)), (ra, .inl (cI, 60, .inl fa)), (rb, .inl (cI, 60, .inl fb)), (rc, .inl (cI, 60, .inl fc))]) hx hb hr hlocks hK (hP.sub [0, 1, 2, 3, 4] rfl) (hD.sub [0, 1, 2, 3, 4] (by decide) rfl) hS ?_ d_Row_leftAt_66
    exact ⟨(if_pos g_5_60).symm, rfl⟩
  by_cases g_5_67 : (kA n fk k) = 8 ∨ (kA n fk k) = 10
  · skip
    refine sm_tab (tgt := 67) hx hb d_Row_leftAt_5 (by rcases g_5_67 with h | h <;> (rw [h]; decide)) ?_
    refine lv_aload_n hx hb d_Row_leftAt_67 rfl (lv_at hl 0 rfl) ?_
    refine va_get (D := (dC, dI)) (ci := 0) (v := .ref ra) (C := R_Row) (T := T_Row) (N := 5) hx hb ht i_Row hown hK hP 0 rfl rfl 1 (by decide) (ht _ mw_30) (fun _ h9 => h9) rfl d_Row_leftAt_68 ?_
    refine lv_iload_n hx hb d_Row_leftAt_71 rfl (lv_at hl 1 rfl) ?_
    refine sm_iald (j := k.toNatClampNeg) hx hb hK hP 2 0 rfl rfl (kA_vp hn (by rcases g_5_67 with h | h <;> (rw [h]; decide))) rfl d_Row_leftAt_72 ?_
    refine sm_ri (v := fa k.toNatClampNeg) (ws := [(r, .inr (0, [.ref rk, .ref ra, .ref rb, .ref rc, .int (nI n)])), (rk, .inl (cI, 60, .inl fk)), (ra, .inl (cI, 60, .inl fa)), (rb, .inl (cI, 60, .inl fb)), (rc, .inl (cI, 60, .inl fc))]) hx hb hr hlocks hK (hP.sub [0, 1, 2, 3, 4] rfl) (hD.sub [0, 1, 2, 3, 4] (by decide) rfl) hS ?_ d_Row_leftAt_73
    exact ⟨((if_neg g_5_60).trans (if_pos g_5_67)).symm, rfl⟩
  refine sm_tab (tgt := 74) hx hb d_Row_leftAt_5 (sm_tabD [1, 2, 3, 4, 5, 6, 8, 10] ⟨fun z => g_5_60 (Or.inl z), fun z => g_5_60 (Or.inr (Or.inl z)), fun z => g_5_60 (Or.inr (Or.inr (Or.inl z))), fun z => g_5_60 (Or.inr (Or.inr (Or.inr (Or.inl z)))), fun z => g_5_60 (Or.inr (Or.inr (Or.inr (Or.inr (Or.inl z))))), fun z => g_5_60 (Or.inr (Or.inr (Or.inr (Or.inr (Or.inr (z)))))), fun z => g_5_67 (Or.inl z), fun z => g_5_67 (Or.inr (z)), trivial⟩ (by decide) (by decide)) ?_
  refine lv_iconst (v := -1) hx hb d_Row_leftAt_74 (by decide) ?_
  refine sm_ri (v := (-1 : Int32)) (ws := [(r, .inr (0, [.ref rk, .ref ra, .ref rb, .ref rc, .int (nI n)])), (rk, .inl (cI, 60, .inl fk)), (ra, .inl (cI, 60, .inl fa)), (rb, .inl (cI, 60, .inl fb)), (rc, .inl (cI, 60, .inl fc))]) hx hb hr hlocks hK (hP.sub [0, 1, 2, 3, 4] rfl) (hD.sub [0, 1, 2, 3, 4] (by decide) rfl) hS ?_ d_Row_leftAt_75
  exact ⟨((if_neg g_5_60).trans (if_neg g_5_67)).symm, rfl⟩
abbrev y_Row_rightAt : MethodName := ⟨"ScanMill$Row", "rightAt", "(I)I"⟩
theorem d_Row_rightAt_0 : decode prog_5_method_9_code 0 = .ok (.aload_n 0, 1) := by decide +kernel
theorem d_Row_rightAt_1 : decode prog_5_method_9_code 1 = .ok (.iload_n 1, 1) := by decide +kernel
theorem d_Row_rightAt_2 : decode prog_5_method_9_code 2 = .ok (.invokevirtual 36, 3) := by decide +kernel
theorem d_Row_rightAt_5 : decode prog_5_method_9_code 5 = .ok (.tableswitch 42 1 5 #[35, 35, 35, 35, 35], 35) := by decide +kernel
theorem d_Row_rightAt_40 : decode prog_5_method_9_code 40 = .ok (.aload_n 0, 1) := by decide +kernel
theorem d_Row_rightAt_41 : decode prog_5_method_9_code 41 = .ok (.getfield 21, 3) := by decide +kernel
theorem mw_32 : Cond.fieldLink "ScanMill$Row" 21 "ScanMill$Row" "cs" "[I" ∈ wG := wG_t 32 (by decide +kernel) (by decide +kernel)
theorem d_Row_rightAt_44 : decode prog_5_method_9_code 44 = .ok (.iload_n 1, 1) := by decide +kernel
theorem d_Row_rightAt_45 : decode prog_5_method_9_code 45 = .ok (.iaload, 1) := by decide +kernel
theorem d_Row_rightAt_46 : decode prog_5_method_9_code 46 = .ok (.ireturn, 1) := by decide +kernel
theorem d_Row_rightAt_47 : decode prog_5_method_9_code 47 = .ok (.iconst (-1), 1) := by decide +kernel
theorem d_Row_rightAt_48 : decode prog_5_method_9_code 48 = .ok (.ireturn, 1) := by decide +kernel
set_option maxRecDepth 100000 in
set_option maxHeartbeats 4000000 in
theorem c_Row_rightAt {l : Launch} {dC : Nat → ClassId} {dI : Nat → Nat → Nat} {cI cZ : ClassId} {r rk ra rb rc n : Nat} {fk fa fb fc : Nat → Int32} {k : Int32} (hn : n ≤ 60) : sm_I l y_Row_rightAt prog_5_method_9_code 2 (some .int) (rmF 2 42) (dC, dI) smC [(cI, .int), (cZ, .boolean)] [.ref r, .int k] [(r, .inr (0, [.ref rk, .ref ra, .ref rb, .ref rc, .int (nI n)])), (rk, .inl (cI, 60, .inl fk)), (ra, .inl (cI, 60, .inl fa)), (rb, .inl (cI, 60, .inl fb)), (rc, .inl (cI, 60, .inl fc))] (fun q w2 => q = (rA n fk fc k) ∧ w2 = [(r, .inr (0, [.ref rk, .ref ra, .ref rb, .ref rc, .int (nI n)])), (rk, .inl (cI, 60, .inl fk)), (ra, .inl (cI, 60, .inl fa)), (rb, .inl (cI, 60, .inl fb)), (rc, .inl (cI, 60, .inl fc))]) := by
  refine sm_I.mk (by decide) (Nat.le_of_ble_eq_true rfl) ?_
  intro p e s m below meth c A H locs ls hx hb hr ht hown hlocks hml hnm hP hK hD hA hS hN hl
  have hl : lv_has ls 2 [(0, .ref r), (1, .int k)] := hl
  refine lv_aload_n hx hb d_Row_rightAt_0 rfl (lv_at hl 0 rfl) ?_
  refine lv_iload_n hx hb d_Row_rightAt_1 rfl (lv_at hl 1 rfl) ?_
  refine sm_goi (wc := [(r, .inr (0, [.ref rk, .ref ra, .ref rb, .ref rc, .int (nI n)])), (rk, .inl (cI, 60, .inl fk)), (ra, .inl (cI, 60, .inl fa)), (rb, .inl (cI, 60, .inl fb)), (rc, .inl (cI, 60, .inl fc))]) (wr := []) (va_runV (As := [.int k]) (rest := []) ⟨hx, hb, hml, hown, ht⟩ ((c_Row_kindAt (l := l) (dC := dC) (dI := dI) (cI := cI) (cZ := cZ) (r := r) (rk := rk) (ra := ra) (rb := rb) (rc := rc) (n := n) (fk := fk) (fa := fa) (fb := fb) (fc := fc) (k := k) (by first | assumption | omega)).at H.size) (sm_cV 1 ht mw_217 mw_2 mw_214 mw_215 mw_216 rfl rfl (by decide +kernel) ⟨Nat.le_of_ble_eq_true rfl, Nat.le_of_ble_eq_true rfl⟩) (sm_preV (ci := 0) hN hK hP hD [0, 1, 2, 3, 4] rfl rfl (by decide) 0 rfl rfl) rfl rfl hl.1 rfl (lv_room (Nat.le_of_ble_eq_true rfl)) d_Row_rightAt_2 ⟨Nat.zero_le _, Nat.zero_le _⟩) hP hD hS hA [0, 1, 2, 3, 4] [] rfl rfl (by decide) (by decide) (fun r_2 w_2 H locs q_2 hP hD hS => ?_)
  obtain ⟨rfl, rfl⟩ := q_2
  have hP : va_P (dC, dI) smC [(r, .inr (0, [.ref rk, .ref ra, .ref rb, .ref rc, .int (nI n)])), (rk, .inl (cI, 60, .inl fk)), (ra, .inl (cI, 60, .inl fa)), (rb, .inl (cI, 60, .inl fb)), (rc, .inl (cI, 60, .inl fc))] H := hP
  have hD : va_D A [(r, .inr (0, [.ref rk, .ref ra, .ref rb, .ref rc, .int (nI n)])), (rk, .inl (cI, 60, .inl fk)), (ra, .inl (cI, 60, .inl fa)), (rb, .inl (cI, 60, .inl fb)), (rc, .inl (cI, 60, .inl fc))] := hD
  by_cases g_5_40 : (kA n fk k) = 1 ∨ (kA n fk k) = 2 ∨ (kA n fk k) = 3 ∨ (kA n fk k) = 4 ∨ (kA n fk k) = 5
  · skip
    refine sm_tab (tgt := 40) hx hb d_Row_rightAt_5 (by rcases g_5_40 with h | h | h | h | h <;> (rw [h]; decide)) ?_
    refine lv_aload_n hx hb d_Row_rightAt_40 rfl (lv_at hl 0 rfl) ?_
    refine va_get (D := (dC, dI)) (ci := 0) (v := .ref rc) (C := R_Row) (T := T_Row) (N := 5) hx hb ht i_Row hown hK hP 0 rfl rfl 3 (by decide) (ht _ mw_32) (fun _ h9 => h9) rfl d_Row_rightAt_41 ?_
    refine lv_iload_n hx hb d_Row_rightAt_44 rfl (lv_at hl 1 rfl) ?_
    refine sm_iald (j := k.toNatClampNeg) hx hb hK hP 4 0 rfl rfl (kA_vp hn (by rcases g_5_40 with h | h | h | h | h <;> (rw [h]; decide))) rfl d_Row_rightAt_45 ?_
    refine sm_ri (v := fc k.toNatClampNeg) (ws := [(r, .inr (0, [.ref rk, .ref ra, .ref rb, .ref rc, .int (nI n)])), (rk, .inl (cI, 60, .inl fk)), (ra, .inl (cI, 60, .inl fa)), (rb, .inl (cI, 60, .inl fb)), (rc, .inl (cI, 60, .inl fc))]) hx hb hr hlocks hK (hP.sub [0, 1, 2, 3, 4] rfl) (hD.sub [0, 1, 2, 3, 4] (by decide) rfl) hS ?_ d_Row_rightAt_46
    exact ⟨(if_pos g_5_40).symm, rfl⟩
  refine sm_tab (tgt := 47) hx hb d_Row_rightAt_5 (sm_tabD [1, 2, 3, 4, 5] ⟨fun z => g_5_40 (Or.inl z), fun z => g_5_40 (Or.inr (Or.inl z)), fun z => g_5_40 (Or.inr (Or.inr (Or.inl z))), fun z => g_5_40 (Or.inr (Or.inr (Or.inr (Or.inl z)))), fun z => g_5_40 (Or.inr (Or.inr (Or.inr (Or.inr (z))))), trivial⟩ (by decide) (by decide)) ?_
  refine lv_iconst (v := -1) hx hb d_Row_rightAt_47 (by decide) ?_
  refine sm_ri (v := (-1 : Int32)) (ws := [(r, .inr (0, [.ref rk, .ref ra, .ref rb, .ref rc, .int (nI n)])), (rk, .inl (cI, 60, .inl fk)), (ra, .inl (cI, 60, .inl fa)), (rb, .inl (cI, 60, .inl fb)), (rc, .inl (cI, 60, .inl fc))]) hx hb hr hlocks hK (hP.sub [0, 1, 2, 3, 4] rfl) (hD.sub [0, 1, 2, 3, 4] (by decide) rfl) hS ?_ d_Row_rightAt_48
  exact ⟨(if_neg g_5_40).symm, rfl⟩
abbrev y_Row_targetAt : MethodName := ⟨"ScanMill$Row", "targetAt", "(I)I"⟩
theorem d_Row_targetAt_0 : decode prog_5_method_10_code 0 = .ok (.aload_n 0, 1) := by decide +kernel
theorem d_Row_targetAt_1 : decode prog_5_method_10_code 1 = .ok (.iload_n 1, 1) := by decide +kernel
theorem d_Row_targetAt_2 : decode prog_5_method_10_code 2 = .ok (.invokevirtual 36, 3) := by decide +kernel
theorem d_Row_targetAt_5 : decode prog_5_method_10_code 5 = .ok (.lookupswitch 41 #[(7, 27), (8, 34)], 27) := by decide +kernel
theorem d_Row_targetAt_32 : decode prog_5_method_10_code 32 = .ok (.aload_n 0, 1) := by decide +kernel
theorem d_Row_targetAt_33 : decode prog_5_method_10_code 33 = .ok (.getfield 15, 3) := by decide +kernel
theorem d_Row_targetAt_36 : decode prog_5_method_10_code 36 = .ok (.iload_n 1, 1) := by decide +kernel
theorem d_Row_targetAt_37 : decode prog_5_method_10_code 37 = .ok (.iaload, 1) := by decide +kernel
theorem d_Row_targetAt_38 : decode prog_5_method_10_code 38 = .ok (.ireturn, 1) := by decide +kernel
theorem d_Row_targetAt_39 : decode prog_5_method_10_code 39 = .ok (.aload_n 0, 1) := by decide +kernel
theorem d_Row_targetAt_40 : decode prog_5_method_10_code 40 = .ok (.getfield 18, 3) := by decide +kernel
theorem d_Row_targetAt_43 : decode prog_5_method_10_code 43 = .ok (.iload_n 1, 1) := by decide +kernel
theorem d_Row_targetAt_44 : decode prog_5_method_10_code 44 = .ok (.iaload, 1) := by decide +kernel
theorem d_Row_targetAt_45 : decode prog_5_method_10_code 45 = .ok (.ireturn, 1) := by decide +kernel
theorem d_Row_targetAt_46 : decode prog_5_method_10_code 46 = .ok (.iconst (-1), 1) := by decide +kernel
theorem d_Row_targetAt_47 : decode prog_5_method_10_code 47 = .ok (.ireturn, 1) := by decide +kernel
set_option maxRecDepth 100000 in
set_option maxHeartbeats 4000000 in
theorem c_Row_targetAt {l : Launch} {dC : Nat → ClassId} {dI : Nat → Nat → Nat} {cI cZ : ClassId} {r rk ra rb rc n : Nat} {fk fa fb fc : Nat → Int32} {k : Int32} (hn : n ≤ 60) : sm_I l y_Row_targetAt prog_5_method_10_code 2 (some .int) (rmF 2 42) (dC, dI) smC [(cI, .int), (cZ, .boolean)] [.ref r, .int k] [(r, .inr (0, [.ref rk, .ref ra, .ref rb, .ref rc, .int (nI n)])), (rk, .inl (cI, 60, .inl fk)), (ra, .inl (cI, 60, .inl fa)), (rb, .inl (cI, 60, .inl fb)), (rc, .inl (cI, 60, .inl fc))] (fun q w2 => q = (tA n fk fa fb k) ∧ w2 = [(r, .inr (0, [.ref rk, .ref ra, .ref rb, .ref rc, .int (nI n)])), (rk, .inl (cI, 60, .inl fk)), (ra, .inl (cI, 60, .inl fa)), (rb, .inl (cI, 60, .inl fb)), (rc, .inl (cI, 60, .inl fc))]) := by
  refine sm_I.mk (by decide) (Nat.le_of_ble_eq_true rfl) ?_
  intro p e s m below meth c A H locs ls hx hb hr ht hown hlocks hml hnm hP hK hD hA hS hN hl
  have hl : lv_has ls 2 [(0, .ref r), (1, .int k)] := hl
  refine lv_aload_n hx hb d_Row_targetAt_0 rfl (lv_at hl 0 rfl) ?_
  refine lv_iload_n hx hb d_Row_targetAt_1 rfl (lv_at hl 1 rfl) ?_
  refine sm_goi (wc := [(r, .inr (0, [.ref rk, .ref ra, .ref rb, .ref rc, .int (nI n)])), (rk, .inl (cI, 60, .inl fk)), (ra, .inl (cI, 60, .inl fa)), (rb, .inl (cI, 60, .inl fb)), (rc, .inl (cI, 60, .inl fc))]) (wr := []) (va_runV (As := [.int k]) (rest := []) ⟨hx, hb, hml, hown, ht⟩ ((c_Row_kindAt (l := l) (dC := dC) (dI := dI) (cI := cI) (cZ := cZ) (r := r) (rk := rk) (ra := ra) (rb := rb) (rc := rc) (n := n) (fk := fk) (fa := fa) (fb := fb) (fc := fc) (k := k) (by first | assumption | omega)).at H.size) (sm_cV 1 ht mw_217 mw_2 mw_214 mw_215 mw_216 rfl rfl (by decide +kernel) ⟨Nat.le_of_ble_eq_true rfl, Nat.le_of_ble_eq_true rfl⟩) (sm_preV (ci := 0) hN hK hP hD [0, 1, 2, 3, 4] rfl rfl (by decide) 0 rfl rfl) rfl rfl hl.1 rfl (lv_room (Nat.le_of_ble_eq_true rfl)) d_Row_targetAt_2 ⟨Nat.zero_le _, Nat.zero_le _⟩) hP hD hS hA [0, 1, 2, 3, 4] [] rfl rfl (by decide) (by decide) (fun r_2 w_2 H locs q_2 hP hD hS => ?_)
  obtain ⟨rfl, rfl⟩ := q_2
  have hP : va_P (dC, dI) smC [(r, .inr (0, [.ref rk, .ref ra, .ref rb, .ref rc, .int (nI n)])), (rk, .inl (cI, 60, .inl fk)), (ra, .inl (cI, 60, .inl fa)), (rb, .inl (cI, 60, .inl fb)), (rc, .inl (cI, 60, .inl fc))] H := hP
  have hD : va_D A [(r, .inr (0, [.ref rk, .ref ra, .ref rb, .ref rc, .int (nI n)])), (rk, .inl (cI, 60, .inl fk)), (ra, .inl (cI, 60, .inl fa)), (rb, .inl (cI, 60, .inl fb)), (rc, .inl (cI, 60, .inl fc))] := hD
  by_cases g_5_32 : (kA n fk k) = 7
  · skip
    refine sm_look (tgt := 32) hx hb d_Row_targetAt_5 (by rw [g_5_32]; decide) ?_
    refine lv_aload_n hx hb d_Row_targetAt_32 rfl (lv_at hl 0 rfl) ?_
    refine va_get (D := (dC, dI)) (ci := 0) (v := .ref ra) (C := R_Row) (T := T_Row) (N := 5) hx hb ht i_Row hown hK hP 0 rfl rfl 1 (by decide) (ht _ mw_30) (fun _ h9 => h9) rfl d_Row_targetAt_33 ?_
    refine lv_iload_n hx hb d_Row_targetAt_36 rfl (lv_at hl 1 rfl) ?_
    refine sm_iald (j := k.toNatClampNeg) hx hb hK hP 2 0 rfl rfl (kA_vp hn (by rw [g_5_32]; decide)) rfl d_Row_targetAt_37 ?_
    refine sm_ri (v := fa k.toNatClampNeg) (ws := [(r, .inr (0, [.ref rk, .ref ra, .ref rb, .ref rc, .int (nI n)])), (rk, .inl (cI, 60, .inl fk)), (ra, .inl (cI, 60, .inl fa)), (rb, .inl (cI, 60, .inl fb)), (rc, .inl (cI, 60, .inl fc))]) hx hb hr hlocks hK (hP.sub [0, 1, 2, 3, 4] rfl) (hD.sub [0, 1, 2, 3, 4] (by decide) rfl) hS ?_ d_Row_targetAt_38
    exact ⟨(if_pos g_5_32).symm, rfl⟩
  by_cases g_5_39 : (kA n fk k) = 8
  · skip
    refine sm_look (tgt := 39) hx hb d_Row_targetAt_5 (by rw [g_5_39]; decide) ?_
    refine lv_aload_n hx hb d_Row_targetAt_39 rfl (lv_at hl 0 rfl) ?_
    refine va_get (D := (dC, dI)) (ci := 0) (v := .ref rb) (C := R_Row) (T := T_Row) (N := 5) hx hb ht i_Row hown hK hP 0 rfl rfl 2 (by decide) (ht _ mw_31) (fun _ h9 => h9) rfl d_Row_targetAt_40 ?_
    refine lv_iload_n hx hb d_Row_targetAt_43 rfl (lv_at hl 1 rfl) ?_
    refine sm_iald (j := k.toNatClampNeg) hx hb hK hP 3 0 rfl rfl (kA_vp hn (by rw [g_5_39]; decide)) rfl d_Row_targetAt_44 ?_
    refine sm_ri (v := fb k.toNatClampNeg) (ws := [(r, .inr (0, [.ref rk, .ref ra, .ref rb, .ref rc, .int (nI n)])), (rk, .inl (cI, 60, .inl fk)), (ra, .inl (cI, 60, .inl fa)), (rb, .inl (cI, 60, .inl fb)), (rc, .inl (cI, 60, .inl fc))]) hx hb hr hlocks hK (hP.sub [0, 1, 2, 3, 4] rfl) (hD.sub [0, 1, 2, 3, 4] (by decide) rfl) hS ?_ d_Row_targetAt_45
    exact ⟨((if_neg g_5_32).trans (if_pos g_5_39)).symm, rfl⟩
  refine sm_look (tgt := 46) hx hb d_Row_targetAt_5 (sm_lookD [7, 8] ⟨fun z => g_5_32 (z), fun z => g_5_39 (z), trivial⟩ (by decide) (by decide)) ?_
  refine lv_iconst (v := -1) hx hb d_Row_targetAt_46 (by decide) ?_
  refine sm_ri (v := (-1 : Int32)) (ws := [(r, .inr (0, [.ref rk, .ref ra, .ref rb, .ref rc, .int (nI n)])), (rk, .inl (cI, 60, .inl fk)), (ra, .inl (cI, 60, .inl fa)), (rb, .inl (cI, 60, .inl fb)), (rc, .inl (cI, 60, .inl fc))]) hx hb hr hlocks hK (hP.sub [0, 1, 2, 3, 4] rfl) (hD.sub [0, 1, 2, 3, 4] (by decide) rfl) hS ?_ d_Row_targetAt_47
  exact ⟨((if_neg g_5_32).trans (if_neg g_5_39)).symm, rfl⟩
abbrev y_Row_isOp : MethodName := ⟨"ScanMill$Row", "isOp", "(IIII)Z"⟩
theorem d_Row_isOp_0 : decode prog_5_method_12_code 0 = .ok (.iload_n 0, 1) := by decide +kernel
theorem d_Row_isOp_1 : decode prog_5_method_12_code 1 = .ok (.tableswitch 136 0 10 #[59, 64, 64, 64, 64, 64, 91, 111, 116, 59, 59], 59) := by decide +kernel
theorem d_Row_isOp_60 : decode prog_5_method_12_code 60 = .ok (.iload_n 1, 1) := by decide +kernel
theorem d_Row_isOp_61 : decode prog_5_method_12_code 61 = .ok (.invokestatic 40, 3) := by decide +kernel
theorem mw_163 : Cond.code ⟨"ScanMill", "isValue", "(I)Z"⟩ prog_1_method_18_code 1 (Option.some FieldType.boolean) ∈ wG := wG_t 163 (by decide +kernel) (by decide +kernel)
theorem mw_1 : Cond.initialized "ScanMill" ∈ wG := wG_t 1 (by decide +kernel) (by decide +kernel)
theorem mw_162 : Cond.static ⟨"ScanMill", "isValue", "(I)Z"⟩ ∈ wG := wG_t 162 (by decide +kernel) (by decide +kernel)
theorem d_Row_isOp_64 : decode prog_5_method_12_code 64 = .ok (.ireturn, 1) := by decide +kernel
theorem d_Row_isOp_65 : decode prog_5_method_12_code 65 = .ok (.iload_n 1, 1) := by decide +kernel
theorem d_Row_isOp_66 : decode prog_5_method_12_code 66 = .ok (.invokestatic 40, 3) := by decide +kernel
theorem d_Row_isOp_69 : decode prog_5_method_12_code 69 = .ok (.ifCond .eq 21, 3) := by decide +kernel
theorem d_Row_isOp_90 : decode prog_5_method_12_code 90 = .ok (.iconst 0, 1) := by decide +kernel
theorem d_Row_isOp_91 : decode prog_5_method_12_code 91 = .ok (.ireturn, 1) := by decide +kernel
theorem d_Row_isOp_72 : decode prog_5_method_12_code 72 = .ok (.iload_n 2, 1) := by decide +kernel
theorem d_Row_isOp_73 : decode prog_5_method_12_code 73 = .ok (.invokestatic 40, 3) := by decide +kernel
theorem d_Row_isOp_76 : decode prog_5_method_12_code 76 = .ok (.ifCond .eq 14, 3) := by decide +kernel
theorem d_Row_isOp_79 : decode prog_5_method_12_code 79 = .ok (.iload_n 3, 1) := by decide +kernel
theorem d_Row_isOp_80 : decode prog_5_method_12_code 80 = .ok (.invokestatic 40, 3) := by decide +kernel
theorem d_Row_isOp_83 : decode prog_5_method_12_code 83 = .ok (.ifCond .eq 7, 3) := by decide +kernel
theorem d_Row_isOp_86 : decode prog_5_method_12_code 86 = .ok (.iconst 1, 1) := by decide +kernel
theorem d_Row_isOp_87 : decode prog_5_method_12_code 87 = .ok (.goto 4, 3) := by decide +kernel
theorem d_Row_isOp_92 : decode prog_5_method_12_code 92 = .ok (.iload_n 1, 1) := by decide +kernel
theorem d_Row_isOp_93 : decode prog_5_method_12_code 93 = .ok (.invokestatic 40, 3) := by decide +kernel
theorem d_Row_isOp_96 : decode prog_5_method_12_code 96 = .ok (.ifCond .eq 14, 3) := by decide +kernel
theorem d_Row_isOp_110 : decode prog_5_method_12_code 110 = .ok (.iconst 0, 1) := by decide +kernel
theorem d_Row_isOp_111 : decode prog_5_method_12_code 111 = .ok (.ireturn, 1) := by decide +kernel
theorem d_Row_isOp_99 : decode prog_5_method_12_code 99 = .ok (.iload_n 2, 1) := by decide +kernel
theorem d_Row_isOp_100 : decode prog_5_method_12_code 100 = .ok (.invokestatic 40, 3) := by decide +kernel
theorem d_Row_isOp_103 : decode prog_5_method_12_code 103 = .ok (.ifCond .eq 7, 3) := by decide +kernel
theorem d_Row_isOp_106 : decode prog_5_method_12_code 106 = .ok (.iconst 1, 1) := by decide +kernel
theorem d_Row_isOp_107 : decode prog_5_method_12_code 107 = .ok (.goto 4, 3) := by decide +kernel
theorem d_Row_isOp_112 : decode prog_5_method_12_code 112 = .ok (.iload_n 1, 1) := by decide +kernel
theorem d_Row_isOp_113 : decode prog_5_method_12_code 113 = .ok (.invokestatic 43, 3) := by decide +kernel
theorem mw_166 : Cond.code ⟨"ScanMill", "isTarget", "(I)Z"⟩ prog_1_method_19_code 1 (Option.some FieldType.boolean) ∈ wG := wG_t 166 (by decide +kernel) (by decide +kernel)
theorem mw_165 : Cond.static ⟨"ScanMill", "isTarget", "(I)Z"⟩ ∈ wG := wG_t 165 (by decide +kernel) (by decide +kernel)
theorem d_Row_isOp_116 : decode prog_5_method_12_code 116 = .ok (.ireturn, 1) := by decide +kernel
theorem d_Row_isOp_117 : decode prog_5_method_12_code 117 = .ok (.iload_n 1, 1) := by decide +kernel
theorem d_Row_isOp_118 : decode prog_5_method_12_code 118 = .ok (.invokestatic 40, 3) := by decide +kernel
theorem d_Row_isOp_121 : decode prog_5_method_12_code 121 = .ok (.ifCond .eq 14, 3) := by decide +kernel
theorem d_Row_isOp_135 : decode prog_5_method_12_code 135 = .ok (.iconst 0, 1) := by decide +kernel
theorem d_Row_isOp_136 : decode prog_5_method_12_code 136 = .ok (.ireturn, 1) := by decide +kernel
theorem d_Row_isOp_124 : decode prog_5_method_12_code 124 = .ok (.iload_n 2, 1) := by decide +kernel
theorem d_Row_isOp_125 : decode prog_5_method_12_code 125 = .ok (.invokestatic 43, 3) := by decide +kernel
theorem d_Row_isOp_128 : decode prog_5_method_12_code 128 = .ok (.ifCond .eq 7, 3) := by decide +kernel
theorem d_Row_isOp_131 : decode prog_5_method_12_code 131 = .ok (.iconst 1, 1) := by decide +kernel
theorem d_Row_isOp_132 : decode prog_5_method_12_code 132 = .ok (.goto 4, 3) := by decide +kernel
theorem d_Row_isOp_137 : decode prog_5_method_12_code 137 = .ok (.iload_n 0, 1) := by decide +kernel
theorem d_Row_isOp_138 : decode prog_5_method_12_code 138 = .ok (.bipush 11, 2) := by decide +kernel
theorem d_Row_isOp_140 : decode prog_5_method_12_code 140 = .ok (.if_icmp .ne 7, 3) := by decide +kernel
theorem d_Row_isOp_147 : decode prog_5_method_12_code 147 = .ok (.iconst 0, 1) := by decide +kernel
theorem d_Row_isOp_148 : decode prog_5_method_12_code 148 = .ok (.ireturn, 1) := by decide +kernel
theorem d_Row_isOp_143 : decode prog_5_method_12_code 143 = .ok (.iconst 1, 1) := by decide +kernel
theorem d_Row_isOp_144 : decode prog_5_method_12_code 144 = .ok (.goto 4, 3) := by decide +kernel
set_option maxRecDepth 100000 in
set_option maxHeartbeats 4000000 in
theorem c_Row_isOp {l : Launch} {dC : Nat → ClassId} {dI : Nat → Nat → Nat} {cI cZ : ClassId} {k va vb vc : Int32}  : sm_I l y_Row_isOp prog_5_method_12_code 4 (some .boolean) (rmF 1 20) (dC, dI) smC [(cI, .int), (cZ, .boolean)] [.int k, .int va, .int vb, .int vc] [] (fun q w2 => q = (b2i (okOp k va vb vc)) ∧ w2 = []) := by
  refine sm_I.mk (by decide) (Nat.le_of_ble_eq_true rfl) ?_
  intro p e s m below meth c A H locs ls hx hb hr ht hown hlocks hml hnm hP hK hD hA hS hN hl
  have hl : lv_has ls 4 [(0, .int k), (1, .int va), (2, .int vb), (3, .int vc)] := hl
  refine lv_iload_n hx hb d_Row_isOp_0 rfl (lv_at hl 0 rfl) ?_
  by_cases g_1_60 : k = 0 ∨ k = 9 ∨ k = 10
  · skip
    refine sm_tab (tgt := 60) hx hb d_Row_isOp_1 (by rcases g_1_60 with h | h | h <;> (rw [h]; decide)) ?_
    refine lv_iload_n hx hb d_Row_isOp_60 rfl (lv_at hl 1 rfl) ?_
    refine sm_goi (wc := []) (wr := []) (va_runSN (As := [.int va]) (rest := []) ⟨hx, hb, hml, hown, ht⟩ ((c_Mill_isValue (l := l) (dC := dC) (dI := dI) (cI := cI) (cZ := cZ) (v := va) ).at H.size) (sm_cN 1 ht mw_163 mw_1 hN.1 mw_162 rfl rfl (by decide +kernel) ⟨Nat.le_of_ble_eq_true rfl, Nat.le_of_ble_eq_true rfl⟩) (sm_preS hN hK hP hD [] rfl rfl (by decide)) rfl rfl hl.1 rfl (lv_room (Nat.le_of_ble_eq_true rfl)) d_Row_isOp_61 ⟨Nat.zero_le _, Nat.zero_le _⟩) hP hD hS hA [] [] rfl rfl (by decide) (by decide) (fun r_61 w_61 H locs q_61 hP hD hS => ?_)
    obtain ⟨rfl, rfl⟩ := q_61
    have hP : va_P (dC, dI) smC [] H := hP
    have hD : va_D A [] := hD
    refine sm_rz (v := b2i (inB va 24)) (ws := []) hx hb hr hlocks hK (hP.sub [] rfl) (hD.sub [] (by decide) rfl) hS (by first | assumption | exact b2i_01 _) ?_ d_Row_isOp_64
    exact ⟨by simp only [okOp, if_pos g_1_60] <;> simp [b2i], rfl⟩
  by_cases g_1_65 : k = 1 ∨ k = 2 ∨ k = 3 ∨ k = 4 ∨ k = 5
  · skip
    refine sm_tab (tgt := 65) hx hb d_Row_isOp_1 (by rcases g_1_65 with h | h | h | h | h <;> (rw [h]; decide)) ?_
    refine lv_iload_n hx hb d_Row_isOp_65 rfl (lv_at hl 1 rfl) ?_
    refine sm_goi (wc := []) (wr := []) (va_runSN (As := [.int va]) (rest := []) ⟨hx, hb, hml, hown, ht⟩ ((c_Mill_isValue (l := l) (dC := dC) (dI := dI) (cI := cI) (cZ := cZ) (v := va) ).at H.size) (sm_cN 1 ht mw_163 mw_1 hN.1 mw_162 rfl rfl (by decide +kernel) ⟨Nat.le_of_ble_eq_true rfl, Nat.le_of_ble_eq_true rfl⟩) (sm_preS hN hK hP hD [] rfl rfl (by decide)) rfl rfl hl.1 rfl (lv_room (Nat.le_of_ble_eq_true rfl)) d_Row_isOp_66 ⟨Nat.zero_le _, Nat.zero_le _⟩) hP hD hS hA [] [] rfl rfl (by decide) (by decide) (fun r_66 w_66 H locs q_66 hP hD hS => ?_)
    obtain ⟨rfl, rfl⟩ := q_66
    have hP : va_P (dC, dI) smC [] H := hP
    have hD : va_D A [] := hD
    refine lv_if_eq (tgt := 90) hx hb d_Row_isOp_69 (by decide) (fun c_69 => ?_) (fun c_69 => ?_)
    · skip
      have e_69 : (inB va 24) = false := b2i_eq0 c_69
      refine lv_iconst (v := 0) hx hb d_Row_isOp_90 (by decide) ?_
      refine sm_rz (v := (0 : Int32)) (ws := []) hx hb hr hlocks hK (hP.sub [] rfl) (hD.sub [] (by decide) rfl) hS (by decide) ?_ d_Row_isOp_91
      exact ⟨by simp only [okOp, if_neg g_1_60, if_pos g_1_65] <;> simp [b2i, e_69], rfl⟩
    · skip
      have e_69 : (inB va 24) = true := b2i_ne0 c_69
      refine lv_iload_n hx hb d_Row_isOp_72 rfl (lv_at hl 2 rfl) ?_
      refine sm_goi (wc := []) (wr := []) (va_runSN (As := [.int vb]) (rest := []) ⟨hx, hb, hml, hown, ht⟩ ((c_Mill_isValue (l := l) (dC := dC) (dI := dI) (cI := cI) (cZ := cZ) (v := vb) ).at H.size) (sm_cN 1 ht mw_163 mw_1 hN.1 mw_162 rfl rfl (by decide +kernel) ⟨Nat.le_of_ble_eq_true rfl, Nat.le_of_ble_eq_true rfl⟩) (sm_preS hN hK hP hD [] rfl rfl (by decide)) rfl rfl hl.1 rfl (lv_room (Nat.le_of_ble_eq_true rfl)) d_Row_isOp_73 ⟨Nat.zero_le _, Nat.zero_le _⟩) hP hD hS hA [] [] rfl rfl (by decide) (by decide) (fun r_73 w_73 H locs q_73 hP hD hS => ?_)
      obtain ⟨rfl, rfl⟩ := q_73
      have hP : va_P (dC, dI) smC [] H := hP
      have hD : va_D A [] := hD
      refine lv_if_eq (tgt := 90) hx hb d_Row_isOp_76 (by decide) (fun c_76 => ?_) (fun c_76 => ?_)
      · skip
        have e_76 : (inB vb 24) = false := b2i_eq0 c_76
        refine lv_iconst (v := 0) hx hb d_Row_isOp_90 (by decide) ?_
        refine sm_rz (v := (0 : Int32)) (ws := []) hx hb hr hlocks hK (hP.sub [] rfl) (hD.sub [] (by decide) rfl) hS (by decide) ?_ d_Row_isOp_91
        exact ⟨by simp only [okOp, if_neg g_1_60, if_pos g_1_65] <;> simp [b2i, e_69, e_76], rfl⟩
      · skip
        have e_76 : (inB vb 24) = true := b2i_ne0 c_76
        refine lv_iload_n hx hb d_Row_isOp_79 rfl (lv_at hl 3 rfl) ?_
        refine sm_goi (wc := []) (wr := []) (va_runSN (As := [.int vc]) (rest := []) ⟨hx, hb, hml, hown, ht⟩ ((c_Mill_isValue (l := l) (dC := dC) (dI := dI) (cI := cI) (cZ := cZ) (v := vc) ).at H.size) (sm_cN 1 ht mw_163 mw_1 hN.1 mw_162 rfl rfl (by decide +kernel) ⟨Nat.le_of_ble_eq_true rfl, Nat.le_of_ble_eq_true rfl⟩) (sm_preS hN hK hP hD [] rfl rfl (by decide)) rfl rfl hl.1 rfl (lv_room (Nat.le_of_ble_eq_true rfl)) d_Row_isOp_80 ⟨Nat.zero_le _, Nat.zero_le _⟩) hP hD hS hA [] [] rfl rfl (by decide) (by decide) (fun r_80 w_80 H locs q_80 hP hD hS => ?_)
        obtain ⟨rfl, rfl⟩ := q_80
        have hP : va_P (dC, dI) smC [] H := hP
        have hD : va_D A [] := hD
        refine lv_if_eq (tgt := 90) hx hb d_Row_isOp_83 (by decide) (fun c_83 => ?_) (fun c_83 => ?_)
        · skip
          have e_83 : (inB vc 24) = false := b2i_eq0 c_83
          refine lv_iconst (v := 0) hx hb d_Row_isOp_90 (by decide) ?_
          refine sm_rz (v := (0 : Int32)) (ws := []) hx hb hr hlocks hK (hP.sub [] rfl) (hD.sub [] (by decide) rfl) hS (by decide) ?_ d_Row_isOp_91
          exact ⟨by simp only [okOp, if_neg g_1_60, if_pos g_1_65] <;> simp [b2i, e_69, e_76, e_83], rfl⟩
        · skip
          have e_83 : (inB vc 24) = true := b2i_ne0 c_83
          refine lv_iconst (v := 1) hx hb d_Row_isOp_86 (by decide) ?_
          refine lv_goto (tgt := 91) hx hb d_Row_isOp_87 (by decide) ?_
          refine sm_rz (v := (1 : Int32)) (ws := []) hx hb hr hlocks hK (hP.sub [] rfl) (hD.sub [] (by decide) rfl) hS (by decide) ?_ d_Row_isOp_91
          exact ⟨by simp only [okOp, if_neg g_1_60, if_pos g_1_65] <;> simp [b2i, e_69, e_76, e_83], rfl⟩
  by_cases g_1_92 : k = 6
  · skip
    refine sm_tab (tgt := 92) hx hb d_Row_isOp_1 (by rw [g_1_92]; decide) ?_
    refine lv_iload_n hx hb d_Row_isOp_92 rfl (lv_at hl 1 rfl) ?_
    refine sm_goi (wc := []) (wr := []) (va_runSN (As := [.int va]) (rest := []) ⟨hx, hb, hml, hown, ht⟩ ((c_Mill_isValue (l := l) (dC := dC) (dI := dI) (cI := cI) (cZ := cZ) (v := va) ).at H.size) (sm_cN 1 ht mw_163 mw_1 hN.1 mw_162 rfl rfl (by decide +kernel) ⟨Nat.le_of_ble_eq_true rfl, Nat.le_of_ble_eq_true rfl⟩) (sm_preS hN hK hP hD [] rfl rfl (by decide)) rfl rfl hl.1 rfl (lv_room (Nat.le_of_ble_eq_true rfl)) d_Row_isOp_93 ⟨Nat.zero_le _, Nat.zero_le _⟩) hP hD hS hA [] [] rfl rfl (by decide) (by decide) (fun r_93 w_93 H locs q_93 hP hD hS => ?_)
    obtain ⟨rfl, rfl⟩ := q_93
    have hP : va_P (dC, dI) smC [] H := hP
    have hD : va_D A [] := hD
    refine lv_if_eq (tgt := 110) hx hb d_Row_isOp_96 (by decide) (fun c_96 => ?_) (fun c_96 => ?_)
    · skip
      have e_96 : (inB va 24) = false := b2i_eq0 c_96
      refine lv_iconst (v := 0) hx hb d_Row_isOp_110 (by decide) ?_
      refine sm_rz (v := (0 : Int32)) (ws := []) hx hb hr hlocks hK (hP.sub [] rfl) (hD.sub [] (by decide) rfl) hS (by decide) ?_ d_Row_isOp_111
      exact ⟨by simp only [okOp, if_neg g_1_60, if_neg g_1_65, if_pos g_1_92] <;> simp [b2i, e_96], rfl⟩
    · skip
      have e_96 : (inB va 24) = true := b2i_ne0 c_96
      refine lv_iload_n hx hb d_Row_isOp_99 rfl (lv_at hl 2 rfl) ?_
      refine sm_goi (wc := []) (wr := []) (va_runSN (As := [.int vb]) (rest := []) ⟨hx, hb, hml, hown, ht⟩ ((c_Mill_isValue (l := l) (dC := dC) (dI := dI) (cI := cI) (cZ := cZ) (v := vb) ).at H.size) (sm_cN 1 ht mw_163 mw_1 hN.1 mw_162 rfl rfl (by decide +kernel) ⟨Nat.le_of_ble_eq_true rfl, Nat.le_of_ble_eq_true rfl⟩) (sm_preS hN hK hP hD [] rfl rfl (by decide)) rfl rfl hl.1 rfl (lv_room (Nat.le_of_ble_eq_true rfl)) d_Row_isOp_100 ⟨Nat.zero_le _, Nat.zero_le _⟩) hP hD hS hA [] [] rfl rfl (by decide) (by decide) (fun r_100 w_100 H locs q_100 hP hD hS => ?_)
      obtain ⟨rfl, rfl⟩ := q_100
      have hP : va_P (dC, dI) smC [] H := hP
      have hD : va_D A [] := hD
      refine lv_if_eq (tgt := 110) hx hb d_Row_isOp_103 (by decide) (fun c_103 => ?_) (fun c_103 => ?_)
      · skip
        have e_103 : (inB vb 24) = false := b2i_eq0 c_103
        refine lv_iconst (v := 0) hx hb d_Row_isOp_110 (by decide) ?_
        refine sm_rz (v := (0 : Int32)) (ws := []) hx hb hr hlocks hK (hP.sub [] rfl) (hD.sub [] (by decide) rfl) hS (by decide) ?_ d_Row_isOp_111
        exact ⟨by simp only [okOp, if_neg g_1_60, if_neg g_1_65, if_pos g_1_92] <;> simp [b2i, e_96, e_103], rfl⟩
      · skip
        have e_103 : (inB vb 24) = true := b2i_ne0 c_103
        refine lv_iconst (v := 1) hx hb d_Row_isOp_106 (by decide) ?_
        refine lv_goto (tgt := 111) hx hb d_Row_isOp_107 (by decide) ?_
        refine sm_rz (v := (1 : Int32)) (ws := []) hx hb hr hlocks hK (hP.sub [] rfl) (hD.sub [] (by decide) rfl) hS (by decide) ?_ d_Row_isOp_111
        exact ⟨by simp only [okOp, if_neg g_1_60, if_neg g_1_65, if_pos g_1_92] <;> simp [b2i, e_96, e_103], rfl⟩
  by_cases g_1_112 : k = 7
  · skip
    refine sm_tab (tgt := 112) hx hb d_Row_isOp_1 (by rw [g_1_112]; decide) ?_
    refine lv_iload_n hx hb d_Row_isOp_112 rfl (lv_at hl 1 rfl) ?_
    refine sm_goi (wc := []) (wr := []) (va_runSN (As := [.int va]) (rest := []) ⟨hx, hb, hml, hown, ht⟩ ((c_Mill_isTarget (l := l) (dC := dC) (dI := dI) (cI := cI) (cZ := cZ) (v := va) ).at H.size) (sm_cN 1 ht mw_166 mw_1 hN.2.1 mw_165 rfl rfl (by decide +kernel) ⟨Nat.le_of_ble_eq_true rfl, Nat.le_of_ble_eq_true rfl⟩) (sm_preS hN hK hP hD [] rfl rfl (by decide)) rfl rfl hl.1 rfl (lv_room (Nat.le_of_ble_eq_true rfl)) d_Row_isOp_113 ⟨Nat.zero_le _, Nat.zero_le _⟩) hP hD hS hA [] [] rfl rfl (by decide) (by decide) (fun r_113 w_113 H locs q_113 hP hD hS => ?_)
    obtain ⟨rfl, rfl⟩ := q_113
    have hP : va_P (dC, dI) smC [] H := hP
    have hD : va_D A [] := hD
    refine sm_rz (v := b2i (inB va 61)) (ws := []) hx hb hr hlocks hK (hP.sub [] rfl) (hD.sub [] (by decide) rfl) hS (by first | assumption | exact b2i_01 _) ?_ d_Row_isOp_116
    exact ⟨by simp only [okOp, if_neg g_1_60, if_neg g_1_65, if_neg g_1_92, if_pos g_1_112] <;> simp [b2i], rfl⟩
  by_cases g_1_117 : k = 8
  · skip
    refine sm_tab (tgt := 117) hx hb d_Row_isOp_1 (by rw [g_1_117]; decide) ?_
    refine lv_iload_n hx hb d_Row_isOp_117 rfl (lv_at hl 1 rfl) ?_
    refine sm_goi (wc := []) (wr := []) (va_runSN (As := [.int va]) (rest := []) ⟨hx, hb, hml, hown, ht⟩ ((c_Mill_isValue (l := l) (dC := dC) (dI := dI) (cI := cI) (cZ := cZ) (v := va) ).at H.size) (sm_cN 1 ht mw_163 mw_1 hN.1 mw_162 rfl rfl (by decide +kernel) ⟨Nat.le_of_ble_eq_true rfl, Nat.le_of_ble_eq_true rfl⟩) (sm_preS hN hK hP hD [] rfl rfl (by decide)) rfl rfl hl.1 rfl (lv_room (Nat.le_of_ble_eq_true rfl)) d_Row_isOp_118 ⟨Nat.zero_le _, Nat.zero_le _⟩) hP hD hS hA [] [] rfl rfl (by decide) (by decide) (fun r_118 w_118 H locs q_118 hP hD hS => ?_)
    obtain ⟨rfl, rfl⟩ := q_118
    have hP : va_P (dC, dI) smC [] H := hP
    have hD : va_D A [] := hD
    refine lv_if_eq (tgt := 135) hx hb d_Row_isOp_121 (by decide) (fun c_121 => ?_) (fun c_121 => ?_)
    · skip
      have e_121 : (inB va 24) = false := b2i_eq0 c_121
      refine lv_iconst (v := 0) hx hb d_Row_isOp_135 (by decide) ?_
      refine sm_rz (v := (0 : Int32)) (ws := []) hx hb hr hlocks hK (hP.sub [] rfl) (hD.sub [] (by decide) rfl) hS (by decide) ?_ d_Row_isOp_136
      exact ⟨by simp only [okOp, if_neg g_1_60, if_neg g_1_65, if_neg g_1_92, if_neg g_1_112, if_pos g_1_117] <;> simp [b2i, e_121], rfl⟩
    · skip
      have e_121 : (inB va 24) = true := b2i_ne0 c_121
      refine lv_iload_n hx hb d_Row_isOp_124 rfl (lv_at hl 2 rfl) ?_
      refine sm_goi (wc := []) (wr := []) (va_runSN (As := [.int vb]) (rest := []) ⟨hx, hb, hml, hown, ht⟩ ((c_Mill_isTarget (l := l) (dC := dC) (dI := dI) (cI := cI) (cZ := cZ) (v := vb) ).at H.size) (sm_cN 1 ht mw_166 mw_1 hN.2.1 mw_165 rfl rfl (by decide +kernel) ⟨Nat.le_of_ble_eq_true rfl, Nat.le_of_ble_eq_true rfl⟩) (sm_preS hN hK hP hD [] rfl rfl (by decide)) rfl rfl hl.1 rfl (lv_room (Nat.le_of_ble_eq_true rfl)) d_Row_isOp_125 ⟨Nat.zero_le _, Nat.zero_le _⟩) hP hD hS hA [] [] rfl rfl (by decide) (by decide) (fun r_125 w_125 H locs q_125 hP hD hS => ?_)
      obtain ⟨rfl, rfl⟩ := q_125
      have hP : va_P (dC, dI) smC [] H := hP
      have hD : va_D A [] := hD
      refine lv_if_eq (tgt := 135) hx hb d_Row_isOp_128 (by decide) (fun c_128 => ?_) (fun c_128 => ?_)
      · skip
        have e_128 : (inB vb 61) = false := b2i_eq0 c_128
        refine lv_iconst (v := 0) hx hb d_Row_isOp_135 (by decide) ?_
        refine sm_rz (v := (0 : Int32)) (ws := []) hx hb hr hlocks hK (hP.sub [] rfl) (hD.sub [] (by decide) rfl) hS (by decide) ?_ d_Row_isOp_136
        exact ⟨by simp only [okOp, if_neg g_1_60, if_neg g_1_65, if_neg g_1_92, if_neg g_1_112, if_pos g_1_117] <;> simp [b2i, e_121, e_128], rfl⟩
      · skip
        have e_128 : (inB vb 61) = true := b2i_ne0 c_128
        refine lv_iconst (v := 1) hx hb d_Row_isOp_131 (by decide) ?_
        refine lv_goto (tgt := 136) hx hb d_Row_isOp_132 (by decide) ?_
        refine sm_rz (v := (1 : Int32)) (ws := []) hx hb hr hlocks hK (hP.sub [] rfl) (hD.sub [] (by decide) rfl) hS (by decide) ?_ d_Row_isOp_136
        exact ⟨by simp only [okOp, if_neg g_1_60, if_neg g_1_65, if_neg g_1_92, if_neg g_1_112, if_pos g_1_117] <;> simp [b2i, e_121, e_128], rfl⟩
  refine sm_tab (tgt := 137) hx hb d_Row_isOp_1 (sm_tabD [0, 9, 10, 1, 2, 3, 4, 5, 6, 7, 8] ⟨fun z => g_1_60 (Or.inl z), fun z => g_1_60 (Or.inr (Or.inl z)), fun z => g_1_60 (Or.inr (Or.inr (z))), fun z => g_1_65 (Or.inl z), fun z => g_1_65 (Or.inr (Or.inl z)), fun z => g_1_65 (Or.inr (Or.inr (Or.inl z))), fun z => g_1_65 (Or.inr (Or.inr (Or.inr (Or.inl z)))), fun z => g_1_65 (Or.inr (Or.inr (Or.inr (Or.inr (z))))), fun z => g_1_92 (z), fun z => g_1_112 (z), fun z => g_1_117 (z), trivial⟩ (by decide) (by decide)) ?_
  refine lv_iload_n hx hb d_Row_isOp_137 rfl (lv_at hl 0 rfl) ?_
  refine lv_bipush (v := 11) hx hb d_Row_isOp_138 (by decide) ?_
  refine lv_icmp_ne (tgt := 147) hx hb d_Row_isOp_140 (by decide) (fun c_140 => ?_) (fun c_140 => ?_)
  · skip
    refine lv_iconst (v := 0) hx hb d_Row_isOp_147 (by decide) ?_
    refine sm_rz (v := (0 : Int32)) (ws := []) hx hb hr hlocks hK (hP.sub [] rfl) (hD.sub [] (by decide) rfl) hS (by decide) ?_ d_Row_isOp_148
    exact ⟨by simp only [okOp, if_neg g_1_60, if_neg g_1_65, if_neg g_1_92, if_neg g_1_112, if_neg g_1_117] <;> simp [b2i, c_140], rfl⟩
  · skip
    refine lv_iconst (v := 1) hx hb d_Row_isOp_143 (by decide) ?_
    refine lv_goto (tgt := 148) hx hb d_Row_isOp_144 (by decide) ?_
    refine sm_rz (v := (1 : Int32)) (ws := []) hx hb hr hlocks hK (hP.sub [] rfl) (hD.sub [] (by decide) rfl) hS (by decide) ?_ d_Row_isOp_148
    exact ⟨by simp only [okOp, if_neg g_1_60, if_neg g_1_65, if_neg g_1_92, if_neg g_1_112, if_neg g_1_117] <;> simp [b2i, c_140], rfl⟩
abbrev y_Row_append : MethodName := ⟨"ScanMill$Row", "append", "(IIII)I"⟩
theorem d_Row_append_0 : decode prog_5_method_4_code 0 = .ok (.aload_n 0, 1) := by decide +kernel
theorem d_Row_append_1 : decode prog_5_method_4_code 1 = .ok (.getfield 24, 3) := by decide +kernel
theorem d_Row_append_4 : decode prog_5_method_4_code 4 = .ok (.bipush 60, 2) := by decide +kernel
theorem d_Row_append_6 : decode prog_5_method_4_code 6 = .ok (.if_icmp .ge 14, 3) := by decide +kernel
theorem d_Row_append_20 : decode prog_5_method_4_code 20 = .ok (.iconst (-1), 1) := by decide +kernel
theorem d_Row_append_21 : decode prog_5_method_4_code 21 = .ok (.ireturn, 1) := by decide +kernel
theorem d_Row_append_9 : decode prog_5_method_4_code 9 = .ok (.iload_n 1, 1) := by decide +kernel
theorem d_Row_append_10 : decode prog_5_method_4_code 10 = .ok (.iload_n 2, 1) := by decide +kernel
theorem d_Row_append_11 : decode prog_5_method_4_code 11 = .ok (.iload_n 3, 1) := by decide +kernel
theorem d_Row_append_12 : decode prog_5_method_4_code 12 = .ok (.iload 4, 2) := by decide +kernel
theorem d_Row_append_14 : decode prog_5_method_4_code 14 = .ok (.invokestatic 28, 3) := by decide +kernel
theorem mw_160 : Cond.code ⟨"ScanMill$Row", "isOp", "(IIII)Z"⟩ prog_5_method_12_code 4 (Option.some FieldType.boolean) ∈ wG := wG_t 160 (by decide +kernel) (by decide +kernel)
theorem mw_159 : Cond.static ⟨"ScanMill$Row", "isOp", "(IIII)Z"⟩ ∈ wG := wG_t 159 (by decide +kernel) (by decide +kernel)
theorem mw_158 : Cond.methodLink "ScanMill$Row" 28 ⟨"ScanMill$Row", "isOp", "(IIII)Z"⟩ ∈ wG := wG_t 158 (by decide +kernel) (by decide +kernel)
theorem d_Row_append_17 : decode prog_5_method_4_code 17 = .ok (.ifCond .ne 5, 3) := by decide +kernel
theorem d_Row_append_22 : decode prog_5_method_4_code 22 = .ok (.aload_n 0, 1) := by decide +kernel
theorem d_Row_append_23 : decode prog_5_method_4_code 23 = .ok (.getfield 24, 3) := by decide +kernel
theorem d_Row_append_26 : decode prog_5_method_4_code 26 = .ok (.istore 5, 2) := by decide +kernel
theorem d_Row_append_28 : decode prog_5_method_4_code 28 = .ok (.aload_n 0, 1) := by decide +kernel
theorem d_Row_append_29 : decode prog_5_method_4_code 29 = .ok (.getfield 9, 3) := by decide +kernel
theorem d_Row_append_32 : decode prog_5_method_4_code 32 = .ok (.iload 5, 2) := by decide +kernel
theorem d_Row_append_34 : decode prog_5_method_4_code 34 = .ok (.iload_n 1, 1) := by decide +kernel
theorem d_Row_append_35 : decode prog_5_method_4_code 35 = .ok (.iastore, 1) := by decide +kernel
theorem d_Row_append_36 : decode prog_5_method_4_code 36 = .ok (.aload_n 0, 1) := by decide +kernel
theorem d_Row_append_37 : decode prog_5_method_4_code 37 = .ok (.getfield 15, 3) := by decide +kernel
theorem d_Row_append_40 : decode prog_5_method_4_code 40 = .ok (.iload 5, 2) := by decide +kernel
theorem d_Row_append_42 : decode prog_5_method_4_code 42 = .ok (.iload_n 2, 1) := by decide +kernel
theorem d_Row_append_43 : decode prog_5_method_4_code 43 = .ok (.iastore, 1) := by decide +kernel
theorem d_Row_append_44 : decode prog_5_method_4_code 44 = .ok (.aload_n 0, 1) := by decide +kernel
theorem d_Row_append_45 : decode prog_5_method_4_code 45 = .ok (.getfield 18, 3) := by decide +kernel
theorem d_Row_append_48 : decode prog_5_method_4_code 48 = .ok (.iload 5, 2) := by decide +kernel
theorem d_Row_append_50 : decode prog_5_method_4_code 50 = .ok (.iload_n 3, 1) := by decide +kernel
theorem d_Row_append_51 : decode prog_5_method_4_code 51 = .ok (.iastore, 1) := by decide +kernel
theorem d_Row_append_52 : decode prog_5_method_4_code 52 = .ok (.aload_n 0, 1) := by decide +kernel
theorem d_Row_append_53 : decode prog_5_method_4_code 53 = .ok (.getfield 21, 3) := by decide +kernel
theorem d_Row_append_56 : decode prog_5_method_4_code 56 = .ok (.iload 5, 2) := by decide +kernel
theorem d_Row_append_58 : decode prog_5_method_4_code 58 = .ok (.iload 4, 2) := by decide +kernel
theorem d_Row_append_60 : decode prog_5_method_4_code 60 = .ok (.iastore, 1) := by decide +kernel
theorem d_Row_append_61 : decode prog_5_method_4_code 61 = .ok (.aload_n 0, 1) := by decide +kernel
theorem d_Row_append_62 : decode prog_5_method_4_code 62 = .ok (.dup, 1) := by decide +kernel
theorem d_Row_append_63 : decode prog_5_method_4_code 63 = .ok (.getfield 24, 3) := by decide +kernel
theorem d_Row_append_66 : decode prog_5_method_4_code 66 = .ok (.iconst 1, 1) := by decide +kernel
theorem d_Row_append_67 : decode prog_5_method_4_code 67 = .ok (.iadd, 1) := by decide +kernel
theorem d_Row_append_68 : decode prog_5_method_4_code 68 = .ok (.putfield 24, 3) := by decide +kernel
theorem d_Row_append_71 : decode prog_5_method_4_code 71 = .ok (.iload 5, 2) := by decide +kernel
theorem d_Row_append_73 : decode prog_5_method_4_code 73 = .ok (.ireturn, 1) := by decide +kernel
set_option maxRecDepth 100000 in
set_option maxHeartbeats 4000000 in
theorem c_Row_append {l : Launch} {dC : Nat → ClassId} {dI : Nat → Nat → Nat} {cI cZ : ClassId} {r rk ra rb rc n : Nat} {fk fa fb fc : Nat → Int32} {k va vb vc : Int32} (hn : n ≤ 60) : sm_I l y_Row_append prog_5_method_4_code 6 (some .int) (rmF 2 43) (dC, dI) smC [(cI, .int), (cZ, .boolean)] [.ref r, .int k, .int va, .int vb, .int vc] [(r, .inr (0, [.ref rk, .ref ra, .ref rb, .ref rc, .int (nI n)])), (rk, .inl (cI, 60, .inl fk)), (ra, .inl (cI, 60, .inl fa)), (rb, .inl (cI, 60, .inl fb)), (rc, .inl (cI, 60, .inl fc))] (fun q w2 => (n < 60 ∧ okOp k va vb vc = true ∧ q = (nI n) ∧ w2 = [(r, .inr (0, [.ref rk, .ref ra, .ref rb, .ref rc, .int (nI (n + 1))])), (rk, .inl (cI, 60, .inl (upd fk n k))), (ra, .inl (cI, 60, .inl (upd fa n va))), (rb, .inl (cI, 60, .inl (upd fb n vb))), (rc, .inl (cI, 60, .inl (upd fc n vc)))]) ∨ (¬ (n < 60 ∧ okOp k va vb vc = true) ∧ q = ((-1 : Int32)) ∧ w2 = [(r, .inr (0, [.ref rk, .ref ra, .ref rb, .ref rc, .int (nI n)])), (rk, .inl (cI, 60, .inl fk)), (ra, .inl (cI, 60, .inl fa)), (rb, .inl (cI, 60, .inl fb)), (rc, .inl (cI, 60, .inl fc))])) := by
  refine sm_I.mk (by decide) (Nat.le_of_ble_eq_true rfl) ?_
  intro p e s m below meth c A H locs ls hx hb hr ht hown hlocks hml hnm hP hK hD hA hS hN hl
  have hl : lv_has ls 6 [(0, .ref r), (1, .int k), (2, .int va), (3, .int vb), (4, .int vc)] := hl
  refine lv_aload_n hx hb d_Row_append_0 rfl (lv_at hl 0 rfl) ?_
  refine va_get (D := (dC, dI)) (ci := 0) (v := .int (nI n)) (C := R_Row) (T := T_Row) (N := 5) hx hb ht i_Row hown hK hP 0 rfl rfl 4 (by decide) (ht _ mw_33) (fun _ h9 => h9) rfl d_Row_append_1 ?_
  refine lv_bipush (v := 60) hx hb d_Row_append_4 (by decide) ?_
  refine lv_icmp_ge (tgt := 20) hx hb d_Row_append_6 (by decide) (fun c_6 => ?_) (fun c_6 => ?_)
  · skip
    have f_6 : 60 ≤ n := (nI_leI (a := 60) (b := n) (by first | omega | decide) (by first | omega | decide)).mp c_6
    refine lv_iconst (v := -1) hx hb d_Row_append_20 (by decide) ?_
    refine sm_ri (v := (-1 : Int32)) (ws := [(r, .inr (0, [.ref rk, .ref ra, .ref rb, .ref rc, .int (nI n)])), (rk, .inl (cI, 60, .inl fk)), (ra, .inl (cI, 60, .inl fa)), (rb, .inl (cI, 60, .inl fb)), (rc, .inl (cI, 60, .inl fc))]) hx hb hr hlocks hK (hP.sub [0, 1, 2, 3, 4] rfl) (hD.sub [0, 1, 2, 3, 4] (by decide) rfl) hS ?_ d_Row_append_21
    exact Or.inr ⟨fun z => by omega, rfl, rfl⟩
  · skip
    have f_6 : ¬ 60 ≤ n := fun z => c_6 ((nI_leI (a := 60) (b := n) (by first | omega | decide) (by first | omega | decide)).mpr z)
    refine lv_iload_n hx hb d_Row_append_9 rfl (lv_at hl 1 rfl) ?_
    refine lv_iload_n hx hb d_Row_append_10 rfl (lv_at hl 2 rfl) ?_
    refine lv_iload_n hx hb d_Row_append_11 rfl (lv_at hl 3 rfl) ?_
    refine lv_iload hx hb d_Row_append_12 (lv_at hl 4 rfl) ?_
    refine sm_goi (wc := []) (wr := [(r, .inr (0, [.ref rk, .ref ra, .ref rb, .ref rc, .int (nI n)])), (rk, .inl (cI, 60, .inl fk)), (ra, .inl (cI, 60, .inl fa)), (rb, .inl (cI, 60, .inl fb)), (rc, .inl (cI, 60, .inl fc))]) (va_runS (As := [.int k, .int va, .int vb, .int vc]) (rest := []) ⟨hx, hb, hml, hown, ht⟩ ((c_Row_isOp (l := l) (dC := dC) (dI := dI) (cI := cI) (cZ := cZ) (k := k) (va := va) (vb := vb) (vc := vc) ).at H.size) (sm_cS 4 ht mw_160 mw_2 mw_158 mw_159 rfl rfl (by decide +kernel) ⟨Nat.le_of_ble_eq_true rfl, Nat.le_of_ble_eq_true rfl⟩) (sm_preS hN hK hP hD [] rfl rfl (by decide)) rfl rfl hl.1 rfl (lv_room (Nat.le_of_ble_eq_true rfl)) d_Row_append_14 ⟨Nat.zero_le _, Nat.zero_le _⟩) hP hD hS hA [] [0, 1, 2, 3, 4] rfl rfl (by decide) (by decide) (fun r_14 w_14 H locs q_14 hP hD hS => ?_)
    obtain ⟨rfl, rfl⟩ := q_14
    have hP : va_P (dC, dI) smC [(r, .inr (0, [.ref rk, .ref ra, .ref rb, .ref rc, .int (nI n)])), (rk, .inl (cI, 60, .inl fk)), (ra, .inl (cI, 60, .inl fa)), (rb, .inl (cI, 60, .inl fb)), (rc, .inl (cI, 60, .inl fc))] H := hP
    have hD : va_D A [(r, .inr (0, [.ref rk, .ref ra, .ref rb, .ref rc, .int (nI n)])), (rk, .inl (cI, 60, .inl fk)), (ra, .inl (cI, 60, .inl fa)), (rb, .inl (cI, 60, .inl fb)), (rc, .inl (cI, 60, .inl fc))] := hD
    refine lv_if_ne (tgt := 22) hx hb d_Row_append_17 (by decide) (fun c_17 => ?_) (fun c_17 => ?_)
    · skip
      have e_17 : (okOp k va vb vc) = true := b2i_ne0 c_17
      refine lv_aload_n hx hb d_Row_append_22 rfl (lv_at hl 0 rfl) ?_
      refine va_get (D := (dC, dI)) (ci := 0) (v := .int (nI n)) (C := R_Row) (T := T_Row) (N := 5) hx hb ht i_Row hown hK hP 0 rfl rfl 4 (by decide) (ht _ mw_33) (fun _ h9 => h9) rfl d_Row_append_23 ?_
      refine lv_istore (lv' := [(5, .int (nI n)), (0, .ref r), (1, .int k), (2, .int va), (3, .int vb), (4, .int vc)]) hx hb d_Row_append_26 hl (by decide) rfl (fun ls hl => ?_)
      refine lv_aload_n hx hb d_Row_append_28 rfl (lv_at hl 1 rfl) ?_
      refine va_get (D := (dC, dI)) (ci := 0) (v := .ref rk) (C := R_Row) (T := T_Row) (N := 5) hx hb ht i_Row hown hK hP 0 rfl rfl 0 (by decide) (ht _ mw_29) (fun _ h9 => h9) rfl d_Row_append_29 ?_
      refine lv_iload hx hb d_Row_append_32 (lv_at hl 0 rfl) ?_
      refine lv_iload_n hx hb d_Row_append_34 rfl (lv_at hl 2 rfl) ?_
      refine sm_iast (j := n) hx hb hK hP hD hS 1 0 rfl rfl (vp_in_nI (by first | omega | assumption) (by first | decide | omega)) (nI_clamp (by first | omega | (have := sm_lt31; omega))) d_Row_append_35 (fun H locs hP hD hS => ?_)
      have hP : va_P (dC, dI) smC [(r, .inr (0, [.ref rk, .ref ra, .ref rb, .ref rc, .int (nI n)])), (rk, .inl (cI, 60, .inl (upd fk n k))), (ra, .inl (cI, 60, .inl fa)), (rb, .inl (cI, 60, .inl fb)), (rc, .inl (cI, 60, .inl fc))] H := hP
      have hD : va_D A [(r, .inr (0, [.ref rk, .ref ra, .ref rb, .ref rc, .int (nI n)])), (rk, .inl (cI, 60, .inl (upd fk n k))), (ra, .inl (cI, 60, .inl fa)), (rb, .inl (cI, 60, .inl fb)), (rc, .inl (cI, 60, .inl fc))] := hD
      refine lv_aload_n hx hb d_Row_append_36 rfl (lv_at hl 1 rfl) ?_
      refine va_get (D := (dC, dI)) (ci := 0) (v := .ref ra) (C := R_Row) (T := T_Row) (N := 5) hx hb ht i_Row hown hK hP 0 rfl rfl 1 (by decide) (ht _ mw_30) (fun _ h9 => h9) rfl d_Row_append_37 ?_
      refine lv_iload hx hb d_Row_append_40 (lv_at hl 0 rfl) ?_
      refine lv_iload_n hx hb d_Row_append_42 rfl (lv_at hl 3 rfl) ?_
      refine sm_iast (j := n) hx hb hK hP hD hS 2 0 rfl rfl (vp_in_nI (by first | omega | assumption) (by first | decide | omega)) (nI_clamp (by first | omega | (have := sm_lt31; omega))) d_Row_append_43 (fun H locs hP hD hS => ?_)
      have hP : va_P (dC, dI) smC [(r, .inr (0, [.ref rk, .ref ra, .ref rb, .ref rc, .int (nI n)])), (rk, .inl (cI, 60, .inl (upd fk n k))), (ra, .inl (cI, 60, .inl (upd fa n va))), (rb, .inl (cI, 60, .inl fb)), (rc, .inl (cI, 60, .inl fc))] H := hP
      have hD : va_D A [(r, .inr (0, [.ref rk, .ref ra, .ref rb, .ref rc, .int (nI n)])), (rk, .inl (cI, 60, .inl (upd fk n k))), (ra, .inl (cI, 60, .inl (upd fa n va))), (rb, .inl (cI, 60, .inl fb)), (rc, .inl (cI, 60, .inl fc))] := hD
      refine lv_aload_n hx hb d_Row_append_44 rfl (lv_at hl 1 rfl) ?_
      refine va_get (D := (dC, dI)) (ci := 0) (v := .ref rb) (C := R_Row) (T := T_Row) (N := 5) hx hb ht i_Row hown hK hP 0 rfl rfl 2 (by decide) (ht _ mw_31) (fun _ h9 => h9) rfl d_Row_append_45 ?_
      refine lv_iload hx hb d_Row_append_48 (lv_at hl 0 rfl) ?_
      refine lv_iload_n hx hb d_Row_append_50 rfl (lv_at hl 4 rfl) ?_
      refine sm_iast (j := n) hx hb hK hP hD hS 3 0 rfl rfl (vp_in_nI (by first | omega | assumption) (by first | decide | omega)) (nI_clamp (by first | omega | (have := sm_lt31; omega))) d_Row_append_51 (fun H locs hP hD hS => ?_)
      have hP : va_P (dC, dI) smC [(r, .inr (0, [.ref rk, .ref ra, .ref rb, .ref rc, .int (nI n)])), (rk, .inl (cI, 60, .inl (upd fk n k))), (ra, .inl (cI, 60, .inl (upd fa n va))), (rb, .inl (cI, 60, .inl (upd fb n vb))), (rc, .inl (cI, 60, .inl fc))] H := hP
      have hD : va_D A [(r, .inr (0, [.ref rk, .ref ra, .ref rb, .ref rc, .int (nI n)])), (rk, .inl (cI, 60, .inl (upd fk n k))), (ra, .inl (cI, 60, .inl (upd fa n va))), (rb, .inl (cI, 60, .inl (upd fb n vb))), (rc, .inl (cI, 60, .inl fc))] := hD
      refine lv_aload_n hx hb d_Row_append_52 rfl (lv_at hl 1 rfl) ?_
      refine va_get (D := (dC, dI)) (ci := 0) (v := .ref rc) (C := R_Row) (T := T_Row) (N := 5) hx hb ht i_Row hown hK hP 0 rfl rfl 3 (by decide) (ht _ mw_32) (fun _ h9 => h9) rfl d_Row_append_53 ?_
      refine lv_iload hx hb d_Row_append_56 (lv_at hl 0 rfl) ?_
      refine lv_iload hx hb d_Row_append_58 (lv_at hl 5 rfl) ?_
      refine sm_iast (j := n) hx hb hK hP hD hS 4 0 rfl rfl (vp_in_nI (by first | omega | assumption) (by first | decide | omega)) (nI_clamp (by first | omega | (have := sm_lt31; omega))) d_Row_append_60 (fun H locs hP hD hS => ?_)
      have hP : va_P (dC, dI) smC [(r, .inr (0, [.ref rk, .ref ra, .ref rb, .ref rc, .int (nI n)])), (rk, .inl (cI, 60, .inl (upd fk n k))), (ra, .inl (cI, 60, .inl (upd fa n va))), (rb, .inl (cI, 60, .inl (upd fb n vb))), (rc, .inl (cI, 60, .inl (upd fc n vc)))] H := hP
      have hD : va_D A [(r, .inr (0, [.ref rk, .ref ra, .ref rb, .ref rc, .int (nI n)])), (rk, .inl (cI, 60, .inl (upd fk n k))), (ra, .inl (cI, 60, .inl (upd fa n va))), (rb, .inl (cI, 60, .inl (upd fb n vb))), (rc, .inl (cI, 60, .inl (upd fc n vc)))] := hD
      refine lv_aload_n hx hb d_Row_append_61 rfl (lv_at hl 1 rfl) ?_
      refine lv_dup hx hb d_Row_append_62 rfl ?_
      refine va_get (D := (dC, dI)) (ci := 0) (v := .int (nI n)) (C := R_Row) (T := T_Row) (N := 5) hx hb ht i_Row hown hK hP 0 rfl rfl 4 (by decide) (ht _ mw_33) (fun _ h9 => h9) rfl d_Row_append_63 ?_
      refine lv_iconst (v := 1) hx hb d_Row_append_66 (by decide) ?_
      refine lv_iadd hx hb d_Row_append_67 ?_
      refine sm_re (nI_add n 1) ?_
      refine va_put (D := (dC, dI)) (ci := 0) (v := .int (nI (n + 1))) (ty := .int) (C := R_Row) (T := T_Row) (N := 5) hx hb ht i_Row t_Row t_Row_ok n_Row hown hK hP hD hS 0 rfl rfl 4 (by decide) (ht _ mw_33) (fun _ h9 => h9) rfl (by decide +kernel) rfl rfl (Nat.le_of_ble_eq_true rfl) d_Row_append_68 (fun H locs hP hD hS => ?_)
      have hP : va_P (dC, dI) smC [(r, .inr (0, [.ref rk, .ref ra, .ref rb, .ref rc, .int (nI (n + 1))])), (rk, .inl (cI, 60, .inl (upd fk n k))), (ra, .inl (cI, 60, .inl (upd fa n va))), (rb, .inl (cI, 60, .inl (upd fb n vb))), (rc, .inl (cI, 60, .inl (upd fc n vc)))] H := hP
      have hD : va_D A [(r, .inr (0, [.ref rk, .ref ra, .ref rb, .ref rc, .int (nI (n + 1))])), (rk, .inl (cI, 60, .inl (upd fk n k))), (ra, .inl (cI, 60, .inl (upd fa n va))), (rb, .inl (cI, 60, .inl (upd fb n vb))), (rc, .inl (cI, 60, .inl (upd fc n vc)))] := hD
      refine lv_iload hx hb d_Row_append_71 (lv_at hl 0 rfl) ?_
      refine sm_ri (v := nI n) (ws := [(r, .inr (0, [.ref rk, .ref ra, .ref rb, .ref rc, .int (nI (n + 1))])), (rk, .inl (cI, 60, .inl (upd fk n k))), (ra, .inl (cI, 60, .inl (upd fa n va))), (rb, .inl (cI, 60, .inl (upd fb n vb))), (rc, .inl (cI, 60, .inl (upd fc n vc)))]) hx hb hr hlocks hK (hP.sub [0, 1, 2, 3, 4] rfl) (hD.sub [0, 1, 2, 3, 4] (by decide) rfl) hS ?_ d_Row_append_73
      exact Or.inl ⟨by omega, e_17, rfl, rfl⟩
    · skip
      have e_17 : (okOp k va vb vc) = false := b2i_eq0 c_17
      refine lv_iconst (v := -1) hx hb d_Row_append_20 (by decide) ?_
      refine sm_ri (v := (-1 : Int32)) (ws := [(r, .inr (0, [.ref rk, .ref ra, .ref rb, .ref rc, .int (nI n)])), (rk, .inl (cI, 60, .inl fk)), (ra, .inl (cI, 60, .inl fa)), (rb, .inl (cI, 60, .inl fb)), (rc, .inl (cI, 60, .inl fc))]) hx hb hr hlocks hK (hP.sub [0, 1, 2, 3, 4] rfl) (hD.sub [0, 1, 2, 3, 4] (by decide) rfl) hS ?_ d_Row_append_21
      exact Or.inr ⟨fun z => by rw [e_17] at z; exact absurd z.2 (by decide), rfl, rfl⟩
end
section
abbrev y_Arr_fill : MethodName := ⟨"java/util/Arrays", "fill", "([II)V"⟩
theorem d_Arr_fill_0 : decode prog_15_method_103_code 0 = .ok (.iconst 0, 1) := by decide +kernel
theorem d_Arr_fill_1 : decode prog_15_method_103_code 1 = .ok (.istore_n 2, 1) := by decide +kernel
theorem d_Arr_fill_2 : decode prog_15_method_103_code 2 = .ok (.aload_n 0, 1) := by decide +kernel
theorem d_Arr_fill_3 : decode prog_15_method_103_code 3 = .ok (.arraylength, 1) := by decide +kernel
theorem d_Arr_fill_4 : decode prog_15_method_103_code 4 = .ok (.istore_n 3, 1) := by decide +kernel
theorem d_Arr_fill_5 : decode prog_15_method_103_code 5 = .ok (.iload_n 2, 1) := by decide +kernel
theorem d_Arr_fill_6 : decode prog_15_method_103_code 6 = .ok (.iload_n 3, 1) := by decide +kernel
theorem d_Arr_fill_7 : decode prog_15_method_103_code 7 = .ok (.if_icmp .ge 13, 3) := by decide +kernel
theorem d_Arr_fill_20 : decode prog_15_method_103_code 20 = .ok (.return_, 1) := by decide +kernel
theorem d_Arr_fill_10 : decode prog_15_method_103_code 10 = .ok (.aload_n 0, 1) := by decide +kernel
theorem d_Arr_fill_11 : decode prog_15_method_103_code 11 = .ok (.iload_n 2, 1) := by decide +kernel
theorem d_Arr_fill_12 : decode prog_15_method_103_code 12 = .ok (.iload_n 1, 1) := by decide +kernel
theorem d_Arr_fill_13 : decode prog_15_method_103_code 13 = .ok (.iastore, 1) := by decide +kernel
theorem d_Arr_fill_14 : decode prog_15_method_103_code 14 = .ok (.iinc 2 1, 3) := by decide +kernel
theorem d_Arr_fill_17 : decode prog_15_method_103_code 17 = .ok (.goto (-12), 3) := by decide +kernel
set_option maxRecDepth 100000 in
set_option maxHeartbeats 4000000 in
theorem c_Arr_fill {l : Launch} {dC : Nat → ClassId} {dI : Nat → Nat → Nat} {cI cZ : ClassId} {x len : Nat} {f : Nat → Int32} {u : Int32} (hlen : len < 2 ^ 31) : sm_V l y_Arr_fill prog_15_method_103_code 4 none (rmF 0 0) (dC, dI) smC [(cI, .int), (cZ, .boolean)] [.ref x, .int u] [(x, .inl (cI, len, .inl f))] (fun w2 => w2 = [(x, .inl (cI, len, .inl (fun _ => u)))]) := by
  refine sm_V.mk (by decide) (Nat.le_of_ble_eq_true rfl) ?_
  intro p e s m below meth c A H locs ls hx hb hr ht hown hlocks hml hnm hP hK hD hA hS hN hl
  have hl : lv_has ls 4 [(0, .ref x), (1, .int u)] := hl
  refine lv_iconst (v := 0) hx hb d_Arr_fill_0 (by decide) ?_
  refine lv_istore_n (lv' := [(2, .int ((0 : Int32))), (0, .ref x), (1, .int u)]) hx hb d_Arr_fill_1 rfl hl (by decide) rfl (fun ls hl => ?_)
  refine lv_aload_n hx hb d_Arr_fill_2 rfl (lv_at hl 1 rfl) ?_
  refine va_alen (v := nI len) hx hb hK hP 0 0 rfl rfl rfl d_Arr_fill_3 ?_
  refine lv_istore_n (lv' := [(3, .int (nI len)), (2, .int ((0 : Int32))), (0, .ref x), (1, .int u)]) hx hb d_Arr_fill_4 rfl hl (by decide) rfl (fun ls hl => ?_)
  have loop_5 : ∀ (N_5 : Nat) (i : Nat) (gg : Nat → Int32), (i ≤ len) → (∀ j, j < i → gg j = u) → (len - i) < N_5 → ∀ (H : Heap) (locs : List Loc), va_P (dC, dI) smC [(x, .inl (cI, len, .inl gg))] H → va_D A [(x, .inl (cI, len, .inl gg))] → va_S A s.heap H locs → ∀ ls : Array Slot, lv_has ls 4 [(0, .ref x), (1, .int u), (2, .int (nI i)), (3, .int (nI len))] → W p l e (rmF 0 0) s m ([.ref x, .int u] : List Value).toArray below meth c H locs 0 0 (MQ below (va_Qv (fun w2 => w2 = [(x, .inl (cI, len, .inl (fun _ => u)))]) (sm_B (dC, dI) smC [(cI, .int), (cZ, .boolean)] A) A) ([.ref x, .int u] : List Value).toArray s 0 0 A) (F0 m 5 ls []) := by
    intro N_5
    induction N_5 with
    | zero => intro i gg _ _ z; exact absurd z (Nat.not_lt_zero _)
    | succ N_5 ih_5 =>
      intro i gg hi hg m_5 H locs hP hD hS ls hl
      refine lv_iload_n hx hb d_Arr_fill_5 rfl (lv_at hl 2 rfl) ?_
      refine lv_iload_n hx hb d_Arr_fill_6 rfl (lv_at hl 3 rfl) ?_
      refine lv_icmp_ge (tgt := 20) hx hb d_Arr_fill_7 (by decide) (fun c_7 => ?_) (fun c_7 => ?_)
      · skip
        have f_7 : len ≤ i := (nI_leI (a := len) (b := i) (by first | omega | decide) (by first | omega | decide)).mp c_7
        have hP := sm_Pcong (f := fun _ => u) (fun j hj => hg j (by omega)) hP
        have hD := sm_Dcong (f := fun _ => u) hD
        have hP : va_P (dC, dI) smC [(x, .inl (cI, len, .inl (fun _ => u)))] H := hP
        have hD : va_D A [(x, .inl (cI, len, .inl (fun _ => u)))] := hD
        refine sm_rv (ws := [(x, .inl (cI, len, .inl (fun _ => u)))]) hx hb hr hlocks hK (hP.sub [0] rfl) (hD.sub [0] (by decide) rfl) hS ?_ d_Arr_fill_20
        rfl
      · skip
        have f_7 : ¬ len ≤ i := fun z => c_7 ((nI_leI (a := len) (b := i) (by first | omega | decide) (by first | omega | decide)).mpr z)
        refine lv_aload_n hx hb d_Arr_fill_10 rfl (lv_at hl 0 rfl) ?_
        refine lv_iload_n hx hb d_Arr_fill_11 rfl (lv_at hl 2 rfl) ?_
        refine lv_iload_n hx hb d_Arr_fill_12 rfl (lv_at hl 1 rfl) ?_
        refine sm_iast (j := i) hx hb hK hP hD hS 0 0 rfl rfl (vp_in_nI (by first | omega | assumption) (by first | decide | omega)) (nI_clamp (by first | omega | (have := sm_lt31; omega))) d_Arr_fill_13 (fun H locs hP hD hS => ?_)
        have hP : va_P (dC, dI) smC [(x, .inl (cI, len, .inl (upd gg i u)))] H := hP
        have hD : va_D A [(x, .inl (cI, len, .inl (upd gg i u)))] := hD
        refine lv_iinc (v := nI (i + 1)) (lv' := [(2, .int (nI (i + 1))), (0, .ref x), (1, .int u), (3, .int (nI len))]) hx hb d_Arr_fill_14 hl (k := 2) rfl (nI_add i 1) (by decide) rfl (fun ls hl => ?_)
        refine lv_goto (tgt := 5) hx hb d_Arr_fill_17 (by decide) ?_
        exact ih_5 (i + 1) (upd gg i u) (by omega) (sm_fillstep hg) (by omega) _ _ (hP.sub [0] rfl) (hD.sub [0] (by decide) rfl) hS _ (lv_sub hl [1, 2, 0, 3] rfl)
  exact loop_5 (len + 1) 0 f (Nat.zero_le _) (fun j hj => absurd hj (Nat.not_lt_zero _)) (by omega) _ _ (hP.sub [0] rfl) (hD.sub [0] (by decide) rfl) hS _ (lv_sub hl [2, 3, 1, 0] rfl)
abbrev y_Liv_markStale : MethodName := ⟨"ScanMill$Liveness", "markStale", "()V"⟩
theorem d_Liv_markStale_0 : decode prog_2_method_2_code 0 = .ok (.aload_n 0, 1) := by decide +kernel
theorem d_Liv_markStale_1 : decode prog_2_method_2_code 1 = .ok (.iconst 1, 1) := by decide +kernel
theorem d_Liv_markStale_2 : decode prog_2_method_2_code 2 = .ok (.putfield 15, 3) := by decide +kernel
theorem mw_53 : Cond.fieldLink "ScanMill$Liveness" 15 "ScanMill$Liveness" "stale" "Z" ∈ wG := wG_t 53 (by decide +kernel) (by decide +kernel)
theorem d_Liv_markStale_5 : decode prog_2_method_2_code 5 = .ok (.return_, 1) := by decide +kernel
set_option maxRecDepth 100000 in
set_option maxHeartbeats 4000000 in
theorem c_Liv_markStale {l : Launch} {dC : Nat → ClassId} {dI : Nat → Nat → Nat} {cI cZ : ClassId} {lv lf : Nat} {ff : Nat → Int32} {stl : Int32}  : sm_V l y_Liv_markStale prog_2_method_2_code 1 none (rmF 0 0) (dC, dI) smC [(cI, .int), (cZ, .boolean)] [.ref lv] [(lv, .inr (1, [.ref lf, .int stl])), (lf, .inl (cI, 61, .inl ff))] (fun w2 => w2 = [(lv, .inr (1, [.ref lf, .int ((1 : Int32))])), (lf, .inl (cI, 61, .inl ff))]) := by
  refine sm_V.mk (by decide) (Nat.le_of_ble_eq_true rfl) ?_
  intro p e s m below meth c A H locs ls hx hb hr ht hown hlocks hml hnm hP hK hD hA hS hN hl
  have hl : lv_has ls 1 [(0, .ref lv)] := hl
  refine lv_aload_n hx hb d_Liv_markStale_0 rfl (lv_at hl 0 rfl) ?_
  refine lv_iconst (v := 1) hx hb d_Liv_markStale_1 (by decide) ?_
  refine va_put (D := (dC, dI)) (ci := 1) (v := .int ((1 : Int32))) (ty := .boolean) (C := R_Liv) (T := T_Liv) (N := 2) hx hb ht i_Liv t_Liv t_Liv_ok n_Liv hown hK hP hD hS 0 rfl rfl 1 (by decide) (ht _ mw_53) (fun _ h9 => h9) rfl (by decide +kernel) rfl rfl (Nat.le_of_ble_eq_true rfl) d_Liv_markStale_2 (fun H locs hP hD hS => ?_)
  have hP : va_P (dC, dI) smC [(lv, .inr (1, [.ref lf, .int ((1 : Int32))])), (lf, .inl (cI, 61, .inl ff))] H := hP
  have hD : va_D A [(lv, .inr (1, [.ref lf, .int ((1 : Int32))])), (lf, .inl (cI, 61, .inl ff))] := hD
  refine sm_rv (ws := [(lv, .inr (1, [.ref lf, .int ((1 : Int32))])), (lf, .inl (cI, 61, .inl ff))]) hx hb hr hlocks hK (hP.sub [0, 1] rfl) (hD.sub [0, 1] (by decide) rfl) hS ?_ d_Liv_markStale_5
  rfl
abbrev y_Liv_bit : MethodName := ⟨"ScanMill$Liveness", "bit", "(I)I"⟩
theorem d_Liv_bit_0 : decode prog_2_method_8_code 0 = .ok (.iload_n 0, 1) := by decide +kernel
theorem d_Liv_bit_1 : decode prog_2_method_8_code 1 = .ok (.invokestatic 67, 3) := by decide +kernel
theorem d_Liv_bit_4 : decode prog_2_method_8_code 4 = .ok (.ifCond .eq 9, 3) := by decide +kernel
theorem d_Liv_bit_13 : decode prog_2_method_8_code 13 = .ok (.iconst 0, 1) := by decide +kernel
theorem d_Liv_bit_14 : decode prog_2_method_8_code 14 = .ok (.ireturn, 1) := by decide +kernel
theorem d_Liv_bit_7 : decode prog_2_method_8_code 7 = .ok (.iconst 1, 1) := by decide +kernel
theorem d_Liv_bit_8 : decode prog_2_method_8_code 8 = .ok (.iload_n 0, 1) := by decide +kernel
theorem d_Liv_bit_9 : decode prog_2_method_8_code 9 = .ok (.ishl, 1) := by decide +kernel
theorem d_Liv_bit_10 : decode prog_2_method_8_code 10 = .ok (.goto 4, 3) := by decide +kernel
set_option maxRecDepth 100000 in
set_option maxHeartbeats 4000000 in
theorem c_Liv_bit {l : Launch} {dC : Nat → ClassId} {dI : Nat → Nat → Nat} {cI cZ : ClassId} {v : Int32}  : sm_I l y_Liv_bit prog_2_method_8_code 1 (some .int) (rmF 1 20) (dC, dI) smC [(cI, .int), (cZ, .boolean)] [.int v] [] (fun q w2 => q = (bitV v) ∧ w2 = []) := by
  refine sm_I.mk (by decide) (Nat.le_of_ble_eq_true rfl) ?_
  intro p e s m below meth c A H locs ls hx hb hr ht hown hlocks hml hnm hP hK hD hA hS hN hl
  have hl : lv_has ls 1 [(0, .int v)] := hl
  refine lv_iload_n hx hb d_Liv_bit_0 rfl (lv_at hl 0 rfl) ?_
  refine sm_goi (wc := []) (wr := []) (va_runSN (As := [.int v]) (rest := []) ⟨hx, hb, hml, hown, ht⟩ ((c_Mill_isValue (l := l) (dC := dC) (dI := dI) (cI := cI) (cZ := cZ) (v := v) ).at H.size) (sm_cN 1 ht mw_163 mw_1 hN.2.2.1 mw_162 rfl rfl (by decide +kernel) ⟨Nat.le_of_ble_eq_true rfl, Nat.le_of_ble_eq_true rfl⟩) (sm_preS hN hK hP hD [] rfl rfl (by decide)) rfl rfl hl.1 rfl (lv_room (Nat.le_of_ble_eq_true rfl)) d_Liv_bit_1 ⟨Nat.zero_le _, Nat.zero_le _⟩) hP hD hS hA [] [] rfl rfl (by decide) (by decide) (fun r_1 w_1 H locs q_1 hP hD hS => ?_)
  obtain ⟨rfl, rfl⟩ := q_1
  have hP : va_P (dC, dI) smC [] H := hP
  have hD : va_D A [] := hD
  refine lv_if_eq (tgt := 13) hx hb d_Liv_bit_4 (by decide) (fun c_4 => ?_) (fun c_4 => ?_)
  · skip
    have e_4 : (inB v 24) = false := b2i_eq0 c_4
    refine lv_iconst (v := 0) hx hb d_Liv_bit_13 (by decide) ?_
    refine sm_ri (v := (0 : Int32)) (ws := []) hx hb hr hlocks hK (hP.sub [] rfl) (hD.sub [] (by decide) rfl) hS ?_ d_Liv_bit_14
    exact ⟨by simp [bitV, e_4], rfl⟩
  · skip
    have e_4 : (inB v 24) = true := b2i_ne0 c_4
    refine lv_iconst (v := 1) hx hb d_Liv_bit_7 (by decide) ?_
    refine lv_iload_n hx hb d_Liv_bit_8 rfl (lv_at hl 0 rfl) ?_
    refine lv_ishl hx hb d_Liv_bit_9 ?_
    refine lv_goto (tgt := 14) hx hb d_Liv_bit_10 (by decide) ?_
    refine sm_ri (v := ((1 : Int32)) <<< (v &&& 31)) (ws := []) hx hb hr hlocks hK (hP.sub [] rfl) (hD.sub [] (by decide) rfl) hS ?_ d_Liv_bit_14
    exact ⟨by simp [bitV, e_4], rfl⟩
abbrev y_Liv_setAhead : MethodName := ⟨"ScanMill$Liveness", "setAhead", "(I)I"⟩
theorem d_Liv_setAhead_0 : decode prog_2_method_7_code 0 = .ok (.iload_n 1, 1) := by decide +kernel
theorem d_Liv_setAhead_1 : decode prog_2_method_7_code 1 = .ok (.ifCond .lt 18, 3) := by decide +kernel
theorem d_Liv_setAhead_19 : decode prog_2_method_7_code 19 = .ok (.iconst 0, 1) := by decide +kernel
theorem d_Liv_setAhead_20 : decode prog_2_method_7_code 20 = .ok (.ireturn, 1) := by decide +kernel
theorem d_Liv_setAhead_4 : decode prog_2_method_7_code 4 = .ok (.iload_n 1, 1) := by decide +kernel
theorem d_Liv_setAhead_5 : decode prog_2_method_7_code 5 = .ok (.bipush 60, 2) := by decide +kernel
theorem d_Liv_setAhead_7 : decode prog_2_method_7_code 7 = .ok (.if_icmp .gt 12, 3) := by decide +kernel
theorem d_Liv_setAhead_10 : decode prog_2_method_7_code 10 = .ok (.aload_n 0, 1) := by decide +kernel
theorem d_Liv_setAhead_11 : decode prog_2_method_7_code 11 = .ok (.getfield 9, 3) := by decide +kernel
theorem mw_52 : Cond.fieldLink "ScanMill$Liveness" 9 "ScanMill$Liveness" "ahead" "[I" ∈ wG := wG_t 52 (by decide +kernel) (by decide +kernel)
theorem d_Liv_setAhead_14 : decode prog_2_method_7_code 14 = .ok (.iload_n 1, 1) := by decide +kernel
theorem d_Liv_setAhead_15 : decode prog_2_method_7_code 15 = .ok (.iaload, 1) := by decide +kernel
theorem d_Liv_setAhead_16 : decode prog_2_method_7_code 16 = .ok (.goto 4, 3) := by decide +kernel
set_option maxRecDepth 100000 in
set_option maxHeartbeats 4000000 in
theorem c_Liv_setAhead {l : Launch} {dC : Nat → ClassId} {dI : Nat → Nat → Nat} {cI cZ : ClassId} {lv lf : Nat} {ff : Nat → Int32} {stl : Int32} {k : Int32}  : sm_I l y_Liv_setAhead prog_2_method_7_code 2 (some .int) (rmF 0 0) (dC, dI) smC [(cI, .int), (cZ, .boolean)] [.ref lv, .int k] [(lv, .inr (1, [.ref lf, .int stl])), (lf, .inl (cI, 61, .inl ff))] (fun q w2 => q = (sH ff k) ∧ w2 = [(lv, .inr (1, [.ref lf, .int stl])), (lf, .inl (cI, 61, .inl ff))]) := by
  refine sm_I.mk (by decide) (Nat.le_of_ble_eq_true rfl) ?_
  intro p e s m below meth c A H locs ls hx hb hr ht hown hlocks hml hnm hP hK hD hA hS hN hl
  have hl : lv_has ls 2 [(0, .ref lv), (1, .int k)] := hl
  refine lv_iload_n hx hb d_Liv_setAhead_0 rfl (lv_at hl 1 rfl) ?_
  refine lv_if_lt (tgt := 19) hx hb d_Liv_setAhead_1 (by decide) (fun c_1 => ?_) (fun c_1 => ?_)
  · skip
    refine lv_iconst (v := 0) hx hb d_Liv_setAhead_19 (by decide) ?_
    refine sm_ri (v := (0 : Int32)) (ws := [(lv, .inr (1, [.ref lf, .int stl])), (lf, .inl (cI, 61, .inl ff))]) hx hb hr hlocks hK (hP.sub [0, 1] rfl) (hD.sub [0, 1] (by decide) rfl) hS ?_ d_Liv_setAhead_20
    exact ⟨by simp [sH, in_lo (n := 61) c_1], rfl⟩
  · skip
    refine lv_iload_n hx hb d_Liv_setAhead_4 rfl (lv_at hl 1 rfl) ?_
    refine lv_bipush (v := 60) hx hb d_Liv_setAhead_5 (by decide) ?_
    refine lv_icmp_gt (tgt := 19) hx hb d_Liv_setAhead_7 (by decide) (fun c_7 => ?_) (fun c_7 => ?_)
    · skip
      refine lv_iconst (v := 0) hx hb d_Liv_setAhead_19 (by decide) ?_
      refine sm_ri (v := (0 : Int32)) (ws := [(lv, .inr (1, [.ref lf, .int stl])), (lf, .inl (cI, 61, .inl ff))]) hx hb hr hlocks hK (hP.sub [0, 1] rfl) (hD.sub [0, 1] (by decide) rfl) hS ?_ d_Liv_setAhead_20
      exact ⟨by simp [sH, in_hg (M := 60) (n := 61) (by decide) c_7], rfl⟩
    · skip
      refine lv_aload_n hx hb d_Liv_setAhead_10 rfl (lv_at hl 0 rfl) ?_
      refine va_get (D := (dC, dI)) (ci := 1) (v := .ref lf) (C := R_Liv) (T := T_Liv) (N := 2) hx hb ht i_Liv hown hK hP 0 rfl rfl 0 (by decide) (ht _ mw_52) (fun _ h9 => h9) rfl d_Liv_setAhead_11 ?_
      refine lv_iload_n hx hb d_Liv_setAhead_14 rfl (lv_at hl 1 rfl) ?_
      refine sm_iald (j := k.toNatClampNeg) hx hb hK hP 1 0 rfl rfl (sm_inB (in_gt (M := 60) (by decide) c_1 c_7)) rfl d_Liv_setAhead_15 ?_
      refine lv_goto (tgt := 20) hx hb d_Liv_setAhead_16 (by decide) ?_
      refine sm_ri (v := ff k.toNatClampNeg) (ws := [(lv, .inr (1, [.ref lf, .int stl])), (lf, .inl (cI, 61, .inl ff))]) hx hb hr hlocks hK (hP.sub [0, 1] rfl) (hD.sub [0, 1] (by decide) rfl) hS ?_ d_Liv_setAhead_20
      exact ⟨by simp [sH, in_gt (M := 60) (n := 61) (by decide) c_1 c_7], rfl⟩
abbrev y_Liv_has : MethodName := ⟨"ScanMill$Liveness", "has", "(II)Z"⟩
theorem d_Liv_has_0 : decode prog_2_method_3_code 0 = .ok (.aload_n 0, 1) := by decide +kernel
theorem d_Liv_has_1 : decode prog_2_method_3_code 1 = .ok (.iload_n 1, 1) := by decide +kernel
theorem d_Liv_has_2 : decode prog_2_method_3_code 2 = .ok (.invokevirtual 19, 3) := by decide +kernel
theorem mw_242 : Cond.code ⟨"ScanMill$Liveness", "setAhead", "(I)I"⟩ prog_2_method_7_code 2 (Option.some FieldType.int) ∈ wG := wG_t 242 (by decide +kernel) (by decide +kernel)
theorem mw_3 : Cond.initialized "ScanMill$Liveness" ∈ wG := wG_t 3 (by decide +kernel) (by decide +kernel)
theorem mw_239 : Cond.methodLink "ScanMill$Liveness" 19 ⟨"ScanMill$Liveness", "setAhead", "(I)I"⟩ ∈ wG := wG_t 239 (by decide +kernel) (by decide +kernel)
theorem mw_241 : Cond.instanceMethod ⟨"ScanMill$Liveness", "setAhead", "(I)I"⟩ ∈ wG := wG_t 241 (by decide +kernel) (by decide +kernel)
theorem mp_4 : Cond.selects "ScanMill$Liveness" ⟨"ScanMill$Liveness", "setAhead", "(I)I"⟩ ⟨"ScanMill$Liveness", "setAhead", "(I)I"⟩ ∈ wG := wG_p 4 (by decide +kernel) (by decide +kernel)
theorem d_Liv_has_5 : decode prog_2_method_3_code 5 = .ok (.iload_n 2, 1) := by decide +kernel
theorem d_Liv_has_6 : decode prog_2_method_3_code 6 = .ok (.invokestatic 23, 3) := by decide +kernel
theorem mw_224 : Cond.code ⟨"ScanMill$Liveness", "bit", "(I)I"⟩ prog_2_method_8_code 1 (Option.some FieldType.int) ∈ wG := wG_t 224 (by decide +kernel) (by decide +kernel)
theorem mw_223 : Cond.static ⟨"ScanMill$Liveness", "bit", "(I)I"⟩ ∈ wG := wG_t 223 (by decide +kernel) (by decide +kernel)
theorem mw_222 : Cond.methodLink "ScanMill$Liveness" 23 ⟨"ScanMill$Liveness", "bit", "(I)I"⟩ ∈ wG := wG_t 222 (by decide +kernel) (by decide +kernel)
theorem d_Liv_has_9 : decode prog_2_method_3_code 9 = .ok (.iand, 1) := by decide +kernel
theorem d_Liv_has_10 : decode prog_2_method_3_code 10 = .ok (.ifCond .eq 7, 3) := by decide +kernel
theorem d_Liv_has_17 : decode prog_2_method_3_code 17 = .ok (.iconst 0, 1) := by decide +kernel
theorem d_Liv_has_18 : decode prog_2_method_3_code 18 = .ok (.ireturn, 1) := by decide +kernel
theorem d_Liv_has_13 : decode prog_2_method_3_code 13 = .ok (.iconst 1, 1) := by decide +kernel
theorem d_Liv_has_14 : decode prog_2_method_3_code 14 = .ok (.goto 4, 3) := by decide +kernel
set_option maxRecDepth 100000 in
set_option maxHeartbeats 4000000 in
theorem c_Liv_has {l : Launch} {dC : Nat → ClassId} {dI : Nat → Nat → Nat} {cI cZ : ClassId} {lv lf : Nat} {ff : Nat → Int32} {stl : Int32} {k v : Int32}  : sm_I l y_Liv_has prog_2_method_3_code 3 (some .boolean) (rmF 2 40) (dC, dI) smC [(cI, .int), (cZ, .boolean)] [.ref lv, .int k, .int v] [(lv, .inr (1, [.ref lf, .int stl])), (lf, .inl (cI, 61, .inl ff))] (fun q w2 => q = (b2i (hasB ff k v)) ∧ w2 = [(lv, .inr (1, [.ref lf, .int stl])), (lf, .inl (cI, 61, .inl ff))]) := by
  refine sm_I.mk (by decide) (Nat.le_of_ble_eq_true rfl) ?_
  intro p e s m below meth c A H locs ls hx hb hr ht hown hlocks hml hnm hP hK hD hA hS hN hl
  have hl : lv_has ls 3 [(0, .ref lv), (1, .int k), (2, .int v)] := hl
  refine lv_aload_n hx hb d_Liv_has_0 rfl (lv_at hl 0 rfl) ?_
  refine lv_iload_n hx hb d_Liv_has_1 rfl (lv_at hl 1 rfl) ?_
  refine sm_goi (wc := [(lv, .inr (1, [.ref lf, .int stl])), (lf, .inl (cI, 61, .inl ff))]) (wr := []) (va_runV (As := [.int k]) (rest := []) ⟨hx, hb, hml, hown, ht⟩ ((c_Liv_setAhead (l := l) (dC := dC) (dI := dI) (cI := cI) (cZ := cZ) (lv := lv) (lf := lf) (ff := ff) (stl := stl) (k := k) ).at H.size) (sm_cV 1 ht mw_242 mw_3 mw_239 mw_241 mp_4 rfl rfl (by decide +kernel) ⟨Nat.le_of_ble_eq_true rfl, Nat.le_of_ble_eq_true rfl⟩) (sm_preV (ci := 1) hN hK hP hD [0, 1] rfl rfl (by decide) 0 rfl rfl) rfl rfl hl.1 rfl (lv_room (Nat.le_of_ble_eq_true rfl)) d_Liv_has_2 ⟨Nat.zero_le _, Nat.zero_le _⟩) hP hD hS hA [0, 1] [] rfl rfl (by decide) (by decide) (fun r_2 w_2 H locs q_2 hP hD hS => ?_)
  obtain ⟨rfl, rfl⟩ := q_2
  have hP : va_P (dC, dI) smC [(lv, .inr (1, [.ref lf, .int stl])), (lf, .inl (cI, 61, .inl ff))] H := hP
  have hD : va_D A [(lv, .inr (1, [.ref lf, .int stl])), (lf, .inl (cI, 61, .inl ff))] := hD
  refine lv_iload_n hx hb d_Liv_has_5 rfl (lv_at hl 2 rfl) ?_
  refine sm_goi (wc := []) (wr := [(lv, .inr (1, [.ref lf, .int stl])), (lf, .inl (cI, 61, .inl ff))]) (va_runS (As := [.int v]) (rest := [.int (sH ff k)]) ⟨hx, hb, hml, hown, ht⟩ ((c_Liv_bit (l := l) (dC := dC) (dI := dI) (cI := cI) (cZ := cZ) (v := v) ).at H.size) (sm_cS 1 ht mw_224 mw_3 mw_222 mw_223 rfl rfl (by decide +kernel) ⟨Nat.le_of_ble_eq_true rfl, Nat.le_of_ble_eq_true rfl⟩) (sm_preS hN hK hP hD [] rfl rfl (by decide)) rfl rfl hl.1 rfl (lv_room (Nat.le_of_ble_eq_true rfl)) d_Liv_has_6 ⟨Nat.zero_le _, Nat.zero_le _⟩) hP hD hS hA [] [0, 1] rfl rfl (by decide) (by decide) (fun r_6 w_6 H locs q_6 hP hD hS => ?_)
  obtain ⟨rfl, rfl⟩ := q_6
  have hP : va_P (dC, dI) smC [(lv, .inr (1, [.ref lf, .int stl])), (lf, .inl (cI, 61, .inl ff))] H := hP
  have hD : va_D A [(lv, .inr (1, [.ref lf, .int stl])), (lf, .inl (cI, 61, .inl ff))] := hD
  refine lv_iand hx hb d_Liv_has_9 ?_
  refine lv_if_eq (tgt := 17) hx hb d_Liv_has_10 (by decide) (fun c_10 => ?_) (fun c_10 => ?_)
  · skip
    refine lv_iconst (v := 0) hx hb d_Liv_has_17 (by decide) ?_
    refine sm_rz (v := (0 : Int32)) (ws := [(lv, .inr (1, [.ref lf, .int stl])), (lf, .inl (cI, 61, .inl ff))]) hx hb hr hlocks hK (hP.sub [0, 1] rfl) (hD.sub [0, 1] (by decide) rfl) hS (by decide) ?_ d_Liv_has_18
    exact ⟨by simp [hasB, b2i, c_10], rfl⟩
  · skip
    refine lv_iconst (v := 1) hx hb d_Liv_has_13 (by decide) ?_
    refine lv_goto (tgt := 18) hx hb d_Liv_has_14 (by decide) ?_
    refine sm_rz (v := (1 : Int32)) (ws := [(lv, .inr (1, [.ref lf, .int stl])), (lf, .inl (cI, 61, .inl ff))]) hx hb hr hlocks hK (hP.sub [0, 1] rfl) (hD.sub [0, 1] (by decide) rfl) hS (by decide) ?_ d_Liv_has_18
    exact ⟨by simp [hasB, b2i, c_10], rfl⟩
abbrev y_Liv_setBehind : MethodName := ⟨"ScanMill$Liveness", "setBehind", "(LScanMill$Row;I)I"⟩
theorem d_Liv_setBehind_0 : decode prog_2_method_6_code 0 = .ok (.aload_n 1, 1) := by decide +kernel
theorem d_Liv_setBehind_1 : decode prog_2_method_6_code 1 = .ok (.iload_n 2, 1) := by decide +kernel
theorem d_Liv_setBehind_2 : decode prog_2_method_6_code 2 = .ok (.invokevirtual 61, 3) := by decide +kernel
theorem mw_234 : Cond.methodLink "ScanMill$Liveness" 61 ⟨"ScanMill$Row", "kindAt", "(I)I"⟩ ∈ wG := wG_t 234 (by decide +kernel) (by decide +kernel)
theorem d_Liv_setBehind_5 : decode prog_2_method_6_code 5 = .ok (.tableswitch 65 7 11 #[35, 45, 65, 65, 63], 35) := by decide +kernel
theorem d_Liv_setBehind_40 : decode prog_2_method_6_code 40 = .ok (.aload_n 0, 1) := by decide +kernel
theorem d_Liv_setBehind_41 : decode prog_2_method_6_code 41 = .ok (.aload_n 1, 1) := by decide +kernel
theorem d_Liv_setBehind_42 : decode prog_2_method_6_code 42 = .ok (.iload_n 2, 1) := by decide +kernel
theorem d_Liv_setBehind_43 : decode prog_2_method_6_code 43 = .ok (.invokevirtual 64, 3) := by decide +kernel
theorem mw_238 : Cond.code ⟨"ScanMill$Row", "targetAt", "(I)I"⟩ prog_5_method_10_code 2 (Option.some FieldType.int) ∈ wG := wG_t 238 (by decide +kernel) (by decide +kernel)
theorem mw_235 : Cond.methodLink "ScanMill$Liveness" 64 ⟨"ScanMill$Row", "targetAt", "(I)I"⟩ ∈ wG := wG_t 235 (by decide +kernel) (by decide +kernel)
theorem mw_236 : Cond.instanceMethod ⟨"ScanMill$Row", "targetAt", "(I)I"⟩ ∈ wG := wG_t 236 (by decide +kernel) (by decide +kernel)
theorem mw_237 : Cond.selects "ScanMill$Row" ⟨"ScanMill$Row", "targetAt", "(I)I"⟩ ⟨"ScanMill$Row", "targetAt", "(I)I"⟩ ∈ wG := wG_t 237 (by decide +kernel) (by decide +kernel)
theorem d_Liv_setBehind_46 : decode prog_2_method_6_code 46 = .ok (.invokevirtual 19, 3) := by decide +kernel
theorem d_Liv_setBehind_49 : decode prog_2_method_6_code 49 = .ok (.ireturn, 1) := by decide +kernel
theorem d_Liv_setBehind_50 : decode prog_2_method_6_code 50 = .ok (.aload_n 0, 1) := by decide +kernel
theorem d_Liv_setBehind_51 : decode prog_2_method_6_code 51 = .ok (.aload_n 1, 1) := by decide +kernel
theorem d_Liv_setBehind_52 : decode prog_2_method_6_code 52 = .ok (.iload_n 2, 1) := by decide +kernel
theorem d_Liv_setBehind_53 : decode prog_2_method_6_code 53 = .ok (.invokevirtual 64, 3) := by decide +kernel
theorem d_Liv_setBehind_56 : decode prog_2_method_6_code 56 = .ok (.invokevirtual 19, 3) := by decide +kernel
theorem d_Liv_setBehind_59 : decode prog_2_method_6_code 59 = .ok (.aload_n 0, 1) := by decide +kernel
theorem d_Liv_setBehind_60 : decode prog_2_method_6_code 60 = .ok (.iload_n 2, 1) := by decide +kernel
theorem d_Liv_setBehind_61 : decode prog_2_method_6_code 61 = .ok (.iconst 1, 1) := by decide +kernel
theorem d_Liv_setBehind_62 : decode prog_2_method_6_code 62 = .ok (.iadd, 1) := by decide +kernel
theorem d_Liv_setBehind_63 : decode prog_2_method_6_code 63 = .ok (.invokevirtual 19, 3) := by decide +kernel
theorem d_Liv_setBehind_66 : decode prog_2_method_6_code 66 = .ok (.ior, 1) := by decide +kernel
theorem d_Liv_setBehind_67 : decode prog_2_method_6_code 67 = .ok (.ireturn, 1) := by decide +kernel
theorem d_Liv_setBehind_68 : decode prog_2_method_6_code 68 = .ok (.iconst 0, 1) := by decide +kernel
theorem d_Liv_setBehind_69 : decode prog_2_method_6_code 69 = .ok (.ireturn, 1) := by decide +kernel
theorem d_Liv_setBehind_70 : decode prog_2_method_6_code 70 = .ok (.aload_n 0, 1) := by decide +kernel
theorem d_Liv_setBehind_71 : decode prog_2_method_6_code 71 = .ok (.iload_n 2, 1) := by decide +kernel
theorem d_Liv_setBehind_72 : decode prog_2_method_6_code 72 = .ok (.iconst 1, 1) := by decide +kernel
theorem d_Liv_setBehind_73 : decode prog_2_method_6_code 73 = .ok (.iadd, 1) := by decide +kernel
theorem d_Liv_setBehind_74 : decode prog_2_method_6_code 74 = .ok (.invokevirtual 19, 3) := by decide +kernel
theorem d_Liv_setBehind_77 : decode prog_2_method_6_code 77 = .ok (.ireturn, 1) := by decide +kernel
set_option maxRecDepth 100000 in
set_option maxHeartbeats 4000000 in
theorem c_Liv_setBehind {l : Launch} {dC : Nat → ClassId} {dI : Nat → Nat → Nat} {cI cZ : ClassId} {lv lf : Nat} {ff : Nat → Int32} {stl : Int32} {r rk ra rb rc n : Nat} {fk fa fb fc : Nat → Int32} {k : Int32} (hn : n ≤ 60) : sm_I l y_Liv_setBehind prog_2_method_6_code 3 (some .int) (rmF 3 63) (dC, dI) smC [(cI, .int), (cZ, .boolean)] [.ref lv, .ref r, .int k] [(lv, .inr (1, [.ref lf, .int stl])), (lf, .inl (cI, 61, .inl ff)), (r, .inr (0, [.ref rk, .ref ra, .ref rb, .ref rc, .int (nI n)])), (rk, .inl (cI, 60, .inl fk)), (ra, .inl (cI, 60, .inl fa)), (rb, .inl (cI, 60, .inl fb)), (rc, .inl (cI, 60, .inl fc))] (fun q w2 => q = (sBh n fk fa fb ff k) ∧ w2 = [(lv, .inr (1, [.ref lf, .int stl])), (lf, .inl (cI, 61, .inl ff)), (r, .inr (0, [.ref rk, .ref ra, .ref rb, .ref rc, .int (nI n)])), (rk, .inl (cI, 60, .inl fk)), (ra, .inl (cI, 60, .inl fa)), (rb, .inl (cI, 60, .inl fb)), (rc, .inl (cI, 60, .inl fc))]) := by
  refine sm_I.mk (by decide) (Nat.le_of_ble_eq_true rfl) ?_
  intro p e s m below meth c A H locs ls hx hb hr ht hown hlocks hml hnm hP hK hD hA hS hN hl
  have hl : lv_has ls 3 [(0, .ref lv), (1, .ref r), (2, .int k)] := hl
  refine lv_aload_n hx hb d_Liv_setBehind_0 rfl (lv_at hl 1 rfl) ?_
  refine lv_iload_n hx hb d_Liv_setBehind_1 rfl (lv_at hl 2 rfl) ?_
  refine sm_goi (wc := [(r, .inr (0, [.ref rk, .ref ra, .ref rb, .ref rc, .int (nI n)])), (rk, .inl (cI, 60, .inl fk)), (ra, .inl (cI, 60, .inl fa)), (rb, .inl (cI, 60, .inl fb)), (rc, .inl (cI, 60, .inl fc))]) (wr := [(lv, .inr (1, [.ref lf, .int stl])), (lf, .inl (cI, 61, .inl ff))]) (va_runV (As := [.int k]) (rest := []) ⟨hx, hb, hml, hown, ht⟩ ((c_Row_kindAt (l := l) (dC := dC) (dI := dI) (cI := cI) (cZ := cZ) (r := r) (rk := rk) (ra := ra) (rb := rb) (rc := rc) (n := n) (fk := fk) (fa := fa) (fb := fb) (fc := fc) (k := k) (by first | assumption | omega)).at H.size) (sm_cV 1 ht mw_217 mw_2 mw_234 mw_215 mw_216 rfl rfl (by decide +kernel) ⟨Nat.le_of_ble_eq_true rfl, Nat.le_of_ble_eq_true rfl⟩) (sm_preV (ci := 0) hN hK hP hD [2, 3, 4, 5, 6] rfl rfl (by decide) 2 rfl rfl) rfl rfl hl.1 rfl (lv_room (Nat.le_of_ble_eq_true rfl)) d_Liv_setBehind_2 ⟨Nat.zero_le _, Nat.zero_le _⟩) hP hD hS hA [2, 3, 4, 5, 6] [0, 1] rfl rfl (by decide) (by decide) (fun r_2 w_2 H locs q_2 hP hD hS => ?_)
  obtain ⟨rfl, rfl⟩ := q_2
  have hP : va_P (dC, dI) smC [(lv, .inr (1, [.ref lf, .int stl])), (lf, .inl (cI, 61, .inl ff)), (r, .inr (0, [.ref rk, .ref ra, .ref rb, .ref rc, .int (nI n)])), (rk, .inl (cI, 60, .inl fk)), (ra, .inl (cI, 60, .inl fa)), (rb, .inl (cI, 60, .inl fb)), (rc, .inl (cI, 60, .inl fc))] H := hP
  have hD : va_D A [(lv, .inr (1, [.ref lf, .int stl])), (lf, .inl (cI, 61, .inl ff)), (r, .inr (0, [.ref rk, .ref ra, .ref rb, .ref rc, .int (nI n)])), (rk, .inl (cI, 60, .inl fk)), (ra, .inl (cI, 60, .inl fa)), (rb, .inl (cI, 60, .inl fb)), (rc, .inl (cI, 60, .inl fc))] := hD
  by_cases g_5_40 : (kA n fk k) = 7
  · skip
    refine sm_tab (tgt := 40) hx hb d_Liv_setBehind_5 (by rw [g_5_40]; decide) ?_
    refine lv_aload_n hx hb d_Liv_setBehind_40 rfl (lv_at hl 0 rfl) ?_
    refine lv_aload_n hx hb d_Liv_setBehind_41 rfl (lv_at hl 1 rfl) ?_
    refine lv_iload_n hx hb d_Liv_setBehind_42 rfl (lv_at hl 2 rfl) ?_
    refine sm_goi (wc := [(r, .inr (0, [.ref rk, .ref ra, .ref rb, .ref rc, .int (nI n)])), (rk, .inl (cI, 60, .inl fk)), (ra, .inl (cI, 60, .inl fa)), (rb, .inl (cI, 60, .inl fb)), (rc, .inl (cI, 60, .inl fc))]) (wr := [(lv, .inr (1, [.ref lf, .int stl])), (lf, .inl (cI, 61, .inl ff))]) (va_runV (As := [.int k]) (rest := [.ref lv]) ⟨hx, hb, hml, hown, ht⟩ ((c_Row_targetAt (l := l) (dC := dC) (dI := dI) (cI := cI) (cZ := cZ) (r := r) (rk := rk) (ra := ra) (rb := rb) (rc := rc) (n := n) (fk := fk) (fa := fa) (fb := fb) (fc := fc) (k := k) (by first | assumption | omega)).at H.size) (sm_cV 1 ht mw_238 mw_2 mw_235 mw_236 mw_237 rfl rfl (by decide +kernel) ⟨Nat.le_of_ble_eq_true rfl, Nat.le_of_ble_eq_true rfl⟩) (sm_preV (ci := 0) hN hK hP hD [2, 3, 4, 5, 6] rfl rfl (by decide) 2 rfl rfl) rfl rfl hl.1 rfl (lv_room (Nat.le_of_ble_eq_true rfl)) d_Liv_setBehind_43 ⟨Nat.zero_le _, Nat.zero_le _⟩) hP hD hS hA [2, 3, 4, 5, 6] [0, 1] rfl rfl (by decide) (by decide) (fun r_43 w_43 H locs q_43 hP hD hS => ?_)
    obtain ⟨rfl, rfl⟩ := q_43
    have hP : va_P (dC, dI) smC [(lv, .inr (1, [.ref lf, .int stl])), (lf, .inl (cI, 61, .inl ff)), (r, .inr (0, [.ref rk, .ref ra, .ref rb, .ref rc, .int (nI n)])), (rk, .inl (cI, 60, .inl fk)), (ra, .inl (cI, 60, .inl fa)), (rb, .inl (cI, 60, .inl fb)), (rc, .inl (cI, 60, .inl fc))] H := hP
    have hD : va_D A [(lv, .inr (1, [.ref lf, .int stl])), (lf, .inl (cI, 61, .inl ff)), (r, .inr (0, [.ref rk, .ref ra, .ref rb, .ref rc, .int (nI n)])), (rk, .inl (cI, 60, .inl fk)), (ra, .inl (cI, 60, .inl fa)), (rb, .inl (cI, 60, .inl fb)), (rc, .inl (cI, 60, .inl fc))] := hD
    refine sm_goi (wc := [(lv, .inr (1, [.ref lf, .int stl])), (lf, .inl (cI, 61, .inl ff))]) (wr := [(r, .inr (0, [.ref rk, .ref ra, .ref rb, .ref rc, .int (nI n)])), (rk, .inl (cI, 60, .inl fk)), (ra, .inl (cI, 60, .inl fa)), (rb, .inl (cI, 60, .inl fb)), (rc, .inl (cI, 60, .inl fc))]) (va_runV (As := [.int (tA n fk fa fb k)]) (rest := []) ⟨hx, hb, hml, hown, ht⟩ ((c_Liv_setAhead (l := l) (dC := dC) (dI := dI) (cI := cI) (cZ := cZ) (lv := lv) (lf := lf) (ff := ff) (stl := stl) (k := tA n fk fa fb k) ).at H.size) (sm_cV 1 ht mw_242 mw_3 mw_239 mw_241 mp_4 rfl rfl (by decide +kernel) ⟨Nat.le_of_ble_eq_true rfl, Nat.le_of_ble_eq_true rfl⟩) (sm_preV (ci := 1) hN hK hP hD [0, 1] rfl rfl (by decide) 0 rfl rfl) rfl rfl hl.1 rfl (lv_room (Nat.le_of_ble_eq_true rfl)) d_Liv_setBehind_46 ⟨Nat.zero_le _, Nat.zero_le _⟩) hP hD hS hA [0, 1] [2, 3, 4, 5, 6] rfl rfl (by decide) (by decide) (fun r_46 w_46 H locs q_46 hP hD hS => ?_)
    obtain ⟨rfl, rfl⟩ := q_46
    have hP : va_P (dC, dI) smC [(r, .inr (0, [.ref rk, .ref ra, .ref rb, .ref rc, .int (nI n)])), (rk, .inl (cI, 60, .inl fk)), (ra, .inl (cI, 60, .inl fa)), (rb, .inl (cI, 60, .inl fb)), (rc, .inl (cI, 60, .inl fc)), (lv, .inr (1, [.ref lf, .int stl])), (lf, .inl (cI, 61, .inl ff))] H := hP
    have hD : va_D A [(r, .inr (0, [.ref rk, .ref ra, .ref rb, .ref rc, .int (nI n)])), (rk, .inl (cI, 60, .inl fk)), (ra, .inl (cI, 60, .inl fa)), (rb, .inl (cI, 60, .inl fb)), (rc, .inl (cI, 60, .inl fc)), (lv, .inr (1, [.ref lf, .int stl])), (lf, .inl (cI, 61, .inl ff))] := hD
    refine sm_ri (v := sH ff (tA n fk fa fb k)) (ws := [(lv, .inr (1, [.ref lf, .int stl])), (lf, .inl (cI, 61, .inl ff)), (r, .inr (0, [.ref rk, .ref ra, .ref rb, .ref rc, .int (nI n)])), (rk, .inl (cI, 60, .inl fk)), (ra, .inl (cI, 60, .inl fa)), (rb, .inl (cI, 60, .inl fb)), (rc, .inl (cI, 60, .inl fc))]) hx hb hr hlocks hK (hP.sub [5, 6, 0, 1, 2, 3, 4] rfl) (hD.sub [5, 6, 0, 1, 2, 3, 4] (by decide) rfl) hS ?_ d_Liv_setBehind_49
    exact ⟨by simp only [sBh, if_pos g_5_40], rfl⟩
  by_cases g_5_50 : (kA n fk k) = 8
  · skip
    refine sm_tab (tgt := 50) hx hb d_Liv_setBehind_5 (by rw [g_5_50]; decide) ?_
    refine lv_aload_n hx hb d_Liv_setBehind_50 rfl (lv_at hl 0 rfl) ?_
    refine lv_aload_n hx hb d_Liv_setBehind_51 rfl (lv_at hl 1 rfl) ?_
    refine lv_iload_n hx hb d_Liv_setBehind_52 rfl (lv_at hl 2 rfl) ?_
    refine sm_goi (wc := [(r, .inr (0, [.ref rk, .ref ra, .ref rb, .ref rc, .int (nI n)])), (rk, .inl (cI, 60, .inl fk)), (ra, .inl (cI, 60, .inl fa)), (rb, .inl (cI, 60, .inl fb)), (rc, .inl (cI, 60, .inl fc))]) (wr := [(lv, .inr (1, [.ref lf, .int stl])), (lf, .inl (cI, 61, .inl ff))]) (va_runV (As := [.int k]) (rest := [.ref lv]) ⟨hx, hb, hml, hown, ht⟩ ((c_Row_targetAt (l := l) (dC := dC) (dI := dI) (cI := cI) (cZ := cZ) (r := r) (rk := rk) (ra := ra) (rb := rb) (rc := rc) (n := n) (fk := fk) (fa := fa) (fb := fb) (fc := fc) (k := k) (by first | assumption | omega)).at H.size) (sm_cV 1 ht mw_238 mw_2 mw_235 mw_236 mw_237 rfl rfl (by decide +kernel) ⟨Nat.le_of_ble_eq_true rfl, Nat.le_of_ble_eq_true rfl⟩) (sm_preV (ci := 0) hN hK hP hD [2, 3, 4, 5, 6] rfl rfl (by decide) 2 rfl rfl) rfl rfl hl.1 rfl (lv_room (Nat.le_of_ble_eq_true rfl)) d_Liv_setBehind_53 ⟨Nat.zero_le _, Nat.zero_le _⟩) hP hD hS hA [2, 3, 4, 5, 6] [0, 1] rfl rfl (by decide) (by decide) (fun r_53 w_53 H locs q_53 hP hD hS => ?_)
    obtain ⟨rfl, rfl⟩ := q_53
    have hP : va_P (dC, dI) smC [(lv, .inr (1, [.ref lf, .int stl])), (lf, .inl (cI, 61, .inl ff)), (r, .inr (0, [.ref rk, .ref ra, .ref rb, .ref rc, .int (nI n)])), (rk, .inl (cI, 60, .inl fk)), (ra, .inl (cI, 60, .inl fa)), (rb, .inl (cI, 60, .inl fb)), (rc, .inl (cI, 60, .inl fc))] H := hP
    have hD : va_D A [(lv, .inr (1, [.ref lf, .int stl])), (lf, .inl (cI, 61, .inl ff)), (r, .inr (0, [.ref rk, .ref ra, .ref rb, .ref rc, .int (nI n)])), (rk, .inl (cI, 60, .inl fk)), (ra, .inl (cI, 60, .inl fa)), (rb, .inl (cI, 60, .inl fb)), (rc, .inl (cI, 60, .inl fc))] := hD
    refine sm_goi (wc := [(lv, .inr (1, [.ref lf, .int stl])), (lf, .inl (cI, 61, .inl ff))]) (wr := [(r, .inr (0, [.ref rk, .ref ra, .ref rb, .ref rc, .int (nI n)])), (rk, .inl (cI, 60, .inl fk)), (ra, .inl (cI, 60, .inl fa)), (rb, .inl (cI, 60, .inl fb)), (rc, .inl (cI, 60, .inl fc))]) (va_runV (As := [.int (tA n fk fa fb k)]) (rest := []) ⟨hx, hb, hml, hown, ht⟩ ((c_Liv_setAhead (l := l) (dC := dC) (dI := dI) (cI := cI) (cZ := cZ) (lv := lv) (lf := lf) (ff := ff) (stl := stl) (k := tA n fk fa fb k) ).at H.size) (sm_cV 1 ht mw_242 mw_3 mw_239 mw_241 mp_4 rfl rfl (by decide +kernel) ⟨Nat.le_of_ble_eq_true rfl, Nat.le_of_ble_eq_true rfl⟩) (sm_preV (ci := 1) hN hK hP hD [0, 1] rfl rfl (by decide) 0 rfl rfl) rfl rfl hl.1 rfl (lv_room (Nat.le_of_ble_eq_true rfl)) d_Liv_setBehind_56 ⟨Nat.zero_le _, Nat.zero_le _⟩) hP hD hS hA [0, 1] [2, 3, 4, 5, 6] rfl rfl (by decide) (by decide) (fun r_56 w_56 H locs q_56 hP hD hS => ?_)
    obtain ⟨rfl, rfl⟩ := q_56
    have hP : va_P (dC, dI) smC [(r, .inr (0, [.ref rk, .ref ra, .ref rb, .ref rc, .int (nI n)])), (rk, .inl (cI, 60, .inl fk)), (ra, .inl (cI, 60, .inl fa)), (rb, .inl (cI, 60, .inl fb)), (rc, .inl (cI, 60, .inl fc)), (lv, .inr (1, [.ref lf, .int stl])), (lf, .inl (cI, 61, .inl ff))] H := hP
    have hD : va_D A [(r, .inr (0, [.ref rk, .ref ra, .ref rb, .ref rc, .int (nI n)])), (rk, .inl (cI, 60, .inl fk)), (ra, .inl (cI, 60, .inl fa)), (rb, .inl (cI, 60, .inl fb)), (rc, .inl (cI, 60, .inl fc)), (lv, .inr (1, [.ref lf, .int stl])), (lf, .inl (cI, 61, .inl ff))] := hD
    refine lv_aload_n hx hb d_Liv_setBehind_59 rfl (lv_at hl 0 rfl) ?_
    refine lv_iload_n hx hb d_Liv_setBehind_60 rfl (lv_at hl 2 rfl) ?_
    refine lv_iconst (v := 1) hx hb d_Liv_setBehind_61 (by decide) ?_
    refine lv_iadd hx hb d_Liv_setBehind_62 ?_
    refine sm_goi (wc := [(lv, .inr (1, [.ref lf, .int stl])), (lf, .inl (cI, 61, .inl ff))]) (wr := [(r, .inr (0, [.ref rk, .ref ra, .ref rb, .ref rc, .int (nI n)])), (rk, .inl (cI, 60, .inl fk)), (ra, .inl (cI, 60, .inl fa)), (rb, .inl (cI, 60, .inl fb)), (rc, .inl (cI, 60, .inl fc))]) (va_runV (As := [.int (k + ((1 : Int32)))]) (rest := [.int (sH ff (tA n fk fa fb k))]) ⟨hx, hb, hml, hown, ht⟩ ((c_Liv_setAhead (l := l) (dC := dC) (dI := dI) (cI := cI) (cZ := cZ) (lv := lv) (lf := lf) (ff := ff) (stl := stl) (k := k + ((1 : Int32))) ).at H.size) (sm_cV 1 ht mw_242 mw_3 mw_239 mw_241 mp_4 rfl rfl (by decide +kernel) ⟨Nat.le_of_ble_eq_true rfl, Nat.le_of_ble_eq_true rfl⟩) (sm_preV (ci := 1) hN hK hP hD [5, 6] rfl rfl (by decide) 5 rfl rfl) rfl rfl hl.1 rfl (lv_room (Nat.le_of_ble_eq_true rfl)) d_Liv_setBehind_63 ⟨Nat.zero_le _, Nat.zero_le _⟩) hP hD hS hA [5, 6] [0, 1, 2, 3, 4] rfl rfl (by decide) (by decide) (fun r_63 w_63 H locs q_63 hP hD hS => ?_)
    obtain ⟨rfl, rfl⟩ := q_63
    have hP : va_P (dC, dI) smC [(r, .inr (0, [.ref rk, .ref ra, .ref rb, .ref rc, .int (nI n)])), (rk, .inl (cI, 60, .inl fk)), (ra, .inl (cI, 60, .inl fa)), (rb, .inl (cI, 60, .inl fb)), (rc, .inl (cI, 60, .inl fc)), (lv, .inr (1, [.ref lf, .int stl])), (lf, .inl (cI, 61, .inl ff))] H := hP
    have hD : va_D A [(r, .inr (0, [.ref rk, .ref ra, .ref rb, .ref rc, .int (nI n)])), (rk, .inl (cI, 60, .inl fk)), (ra, .inl (cI, 60, .inl fa)), (rb, .inl (cI, 60, .inl fb)), (rc, .inl (cI, 60, .inl fc)), (lv, .inr (1, [.ref lf, .int stl])), (lf, .inl (cI, 61, .inl ff))] := hD
    refine lv_ior hx hb d_Liv_setBehind_66 ?_
    refine sm_ri (v := (sH ff (tA n fk fa fb k)) ||| (sH ff (k + ((1 : Int32))))) (ws := [(lv, .inr (1, [.ref lf, .int stl])), (lf, .inl (cI, 61, .inl ff)), (r, .inr (0, [.ref rk, .ref ra, .ref rb, .ref rc, .int (nI n)])), (rk, .inl (cI, 60, .inl fk)), (ra, .inl (cI, 60, .inl fa)), (rb, .inl (cI, 60, .inl fb)), (rc, .inl (cI, 60, .inl fc))]) hx hb hr hlocks hK (hP.sub [5, 6, 0, 1, 2, 3, 4] rfl) (hD.sub [5, 6, 0, 1, 2, 3, 4] (by decide) rfl) hS ?_ d_Liv_setBehind_67
    exact ⟨by simp only [sBh, if_neg g_5_40, if_pos g_5_50], rfl⟩
  by_cases g_5_68 : (kA n fk k) = 11
  · skip
    refine sm_tab (tgt := 68) hx hb d_Liv_setBehind_5 (by rw [g_5_68]; decide) ?_
    refine lv_iconst (v := 0) hx hb d_Liv_setBehind_68 (by decide) ?_
    refine sm_ri (v := (0 : Int32)) (ws := [(lv, .inr (1, [.ref lf, .int stl])), (lf, .inl (cI, 61, .inl ff)), (r, .inr (0, [.ref rk, .ref ra, .ref rb, .ref rc, .int (nI n)])), (rk, .inl (cI, 60, .inl fk)), (ra, .inl (cI, 60, .inl fa)), (rb, .inl (cI, 60, .inl fb)), (rc, .inl (cI, 60, .inl fc))]) hx hb hr hlocks hK (hP.sub [0, 1, 2, 3, 4, 5, 6] rfl) (hD.sub [0, 1, 2, 3, 4, 5, 6] (by decide) rfl) hS ?_ d_Liv_setBehind_69
    exact ⟨by simp only [sBh, if_neg g_5_40, if_neg g_5_50, if_pos g_5_68], rfl⟩
  refine sm_tab (tgt := 70) hx hb d_Liv_setBehind_5 (sm_tabD [7, 8, 11] ⟨fun z => g_5_40 (z), fun z => g_5_50 (z), fun z => g_5_68 (z), trivial⟩ (by decide) (by decide)) ?_
  refine lv_aload_n hx hb d_Liv_setBehind_70 rfl (lv_at hl 0 rfl) ?_
  refine lv_iload_n hx hb d_Liv_setBehind_71 rfl (lv_at hl 2 rfl) ?_
  refine lv_iconst (v := 1) hx hb d_Liv_setBehind_72 (by decide) ?_
  refine lv_iadd hx hb d_Liv_setBehind_73 ?_
  refine sm_goi (wc := [(lv, .inr (1, [.ref lf, .int stl])), (lf, .inl (cI, 61, .inl ff))]) (wr := [(r, .inr (0, [.ref rk, .ref ra, .ref rb, .ref rc, .int (nI n)])), (rk, .inl (cI, 60, .inl fk)), (ra, .inl (cI, 60, .inl fa)), (rb, .inl (cI, 60, .inl fb)), (rc, .inl (cI, 60, .inl fc))]) (va_runV (As := [.int (k + ((1 : Int32)))]) (rest := []) ⟨hx, hb, hml, hown, ht⟩ ((c_Liv_setAhead (l := l) (dC := dC) (dI := dI) (cI := cI) (cZ := cZ) (lv := lv) (lf := lf) (ff := ff) (stl := stl) (k := k + ((1 : Int32))) ).at H.size) (sm_cV 1 ht mw_242 mw_3 mw_239 mw_241 mp_4 rfl rfl (by decide +kernel) ⟨Nat.le_of_ble_eq_true rfl, Nat.le_of_ble_eq_true rfl⟩) (sm_preV (ci := 1) hN hK hP hD [0, 1] rfl rfl (by decide) 0 rfl rfl) rfl rfl hl.1 rfl (lv_room (Nat.le_of_ble_eq_true rfl)) d_Liv_setBehind_74 ⟨Nat.zero_le _, Nat.zero_le _⟩) hP hD hS hA [0, 1] [2, 3, 4, 5, 6] rfl rfl (by decide) (by decide) (fun r_74 w_74 H locs q_74 hP hD hS => ?_)
  obtain ⟨rfl, rfl⟩ := q_74
  have hP : va_P (dC, dI) smC [(r, .inr (0, [.ref rk, .ref ra, .ref rb, .ref rc, .int (nI n)])), (rk, .inl (cI, 60, .inl fk)), (ra, .inl (cI, 60, .inl fa)), (rb, .inl (cI, 60, .inl fb)), (rc, .inl (cI, 60, .inl fc)), (lv, .inr (1, [.ref lf, .int stl])), (lf, .inl (cI, 61, .inl ff))] H := hP
  have hD : va_D A [(r, .inr (0, [.ref rk, .ref ra, .ref rb, .ref rc, .int (nI n)])), (rk, .inl (cI, 60, .inl fk)), (ra, .inl (cI, 60, .inl fa)), (rb, .inl (cI, 60, .inl fb)), (rc, .inl (cI, 60, .inl fc)), (lv, .inr (1, [.ref lf, .int stl])), (lf, .inl (cI, 61, .inl ff))] := hD
  refine sm_ri (v := sH ff (k + ((1 : Int32)))) (ws := [(lv, .inr (1, [.ref lf, .int stl])), (lf, .inl (cI, 61, .inl ff)), (r, .inr (0, [.ref rk, .ref ra, .ref rb, .ref rc, .int (nI n)])), (rk, .inl (cI, 60, .inl fk)), (ra, .inl (cI, 60, .inl fa)), (rb, .inl (cI, 60, .inl fb)), (rc, .inl (cI, 60, .inl fc))]) hx hb hr hlocks hK (hP.sub [5, 6, 0, 1, 2, 3, 4] rfl) (hD.sub [5, 6, 0, 1, 2, 3, 4] (by decide) rfl) hS ?_ d_Liv_setBehind_77
  exact ⟨by simp only [sBh, if_neg g_5_40, if_neg g_5_50, if_neg g_5_68], rfl⟩
abbrev y_Liv_sweep : MethodName := ⟨"ScanMill$Liveness", "sweep", "(LScanMill$Row;)Z"⟩
theorem d_Liv_sweep_0 : decode prog_2_method_5_code 0 = .ok (.iconst 0, 1) := by decide +kernel
theorem d_Liv_sweep_1 : decode prog_2_method_5_code 1 = .ok (.istore_n 2, 1) := by decide +kernel
theorem d_Liv_sweep_2 : decode prog_2_method_5_code 2 = .ok (.aload_n 1, 1) := by decide +kernel
theorem d_Liv_sweep_3 : decode prog_2_method_5_code 3 = .ok (.invokevirtual 36, 3) := by decide +kernel
theorem mw_182 : Cond.code ⟨"ScanMill$Row", "size", "()I"⟩ prog_5_method_2_code 1 (Option.some FieldType.int) ∈ wG := wG_t 182 (by decide +kernel) (by decide +kernel)
theorem mw_206 : Cond.methodLink "ScanMill$Liveness" 36 ⟨"ScanMill$Row", "size", "()I"⟩ ∈ wG := wG_t 206 (by decide +kernel) (by decide +kernel)
theorem mw_180 : Cond.instanceMethod ⟨"ScanMill$Row", "size", "()I"⟩ ∈ wG := wG_t 180 (by decide +kernel) (by decide +kernel)
theorem mw_181 : Cond.selects "ScanMill$Row" ⟨"ScanMill$Row", "size", "()I"⟩ ⟨"ScanMill$Row", "size", "()I"⟩ ∈ wG := wG_t 181 (by decide +kernel) (by decide +kernel)
theorem d_Liv_sweep_6 : decode prog_2_method_5_code 6 = .ok (.bipush 60, 2) := by decide +kernel
theorem d_Liv_sweep_8 : decode prog_2_method_5_code 8 = .ok (.invokestatic 42, 3) := by decide +kernel
theorem mw_207 : Cond.methodLink "ScanMill$Liveness" 42 ⟨"java/lang/Math", "min", "(II)I"⟩ ∈ wG := wG_t 207 (by decide +kernel) (by decide +kernel)
theorem mw_208 : Cond.static ⟨"java/lang/Math", "min", "(II)I"⟩ ∈ wG := wG_t 208 (by decide +kernel) (by decide +kernel)
theorem mw_8 : Cond.initialized "java/lang/Math" ∈ wG := wG_t 8 (by decide +kernel) (by decide +kernel)
theorem mw_209 : Cond.code ⟨"java/lang/Math", "min", "(II)I"⟩ prog_11_method_69_code 2 (Option.some FieldType.int) ∈ wG := wG_t 209 (by decide +kernel) (by decide +kernel)
theorem d_Liv_sweep_11 : decode prog_2_method_5_code 11 = .ok (.iconst 1, 1) := by decide +kernel
theorem d_Liv_sweep_12 : decode prog_2_method_5_code 12 = .ok (.isub, 1) := by decide +kernel
theorem d_Liv_sweep_13 : decode prog_2_method_5_code 13 = .ok (.istore_n 3, 1) := by decide +kernel
theorem d_Liv_sweep_14 : decode prog_2_method_5_code 14 = .ok (.iload_n 3, 1) := by decide +kernel
theorem d_Liv_sweep_15 : decode prog_2_method_5_code 15 = .ok (.ifCond .lt 71, 3) := by decide +kernel
theorem d_Liv_sweep_86 : decode prog_2_method_5_code 86 = .ok (.iload_n 2, 1) := by decide +kernel
theorem d_Liv_sweep_87 : decode prog_2_method_5_code 87 = .ok (.ireturn, 1) := by decide +kernel
theorem d_Liv_sweep_18 : decode prog_2_method_5_code 18 = .ok (.aload_n 1, 1) := by decide +kernel
theorem d_Liv_sweep_19 : decode prog_2_method_5_code 19 = .ok (.iload_n 3, 1) := by decide +kernel
theorem d_Liv_sweep_20 : decode prog_2_method_5_code 20 = .ok (.invokevirtual 48, 3) := by decide +kernel
theorem mw_213 : Cond.code ⟨"ScanMill$Row", "leftAt", "(I)I"⟩ prog_5_method_8_code 2 (Option.some FieldType.int) ∈ wG := wG_t 213 (by decide +kernel) (by decide +kernel)
theorem mw_210 : Cond.methodLink "ScanMill$Liveness" 48 ⟨"ScanMill$Row", "leftAt", "(I)I"⟩ ∈ wG := wG_t 210 (by decide +kernel) (by decide +kernel)
theorem mw_211 : Cond.instanceMethod ⟨"ScanMill$Row", "leftAt", "(I)I"⟩ ∈ wG := wG_t 211 (by decide +kernel) (by decide +kernel)
theorem mw_212 : Cond.selects "ScanMill$Row" ⟨"ScanMill$Row", "leftAt", "(I)I"⟩ ⟨"ScanMill$Row", "leftAt", "(I)I"⟩ ∈ wG := wG_t 212 (by decide +kernel) (by decide +kernel)
theorem d_Liv_sweep_23 : decode prog_2_method_5_code 23 = .ok (.invokestatic 23, 3) := by decide +kernel
theorem d_Liv_sweep_26 : decode prog_2_method_5_code 26 = .ok (.aload_n 1, 1) := by decide +kernel
theorem d_Liv_sweep_27 : decode prog_2_method_5_code 27 = .ok (.iload_n 3, 1) := by decide +kernel
theorem d_Liv_sweep_28 : decode prog_2_method_5_code 28 = .ok (.invokevirtual 51, 3) := by decide +kernel
theorem mw_229 : Cond.code ⟨"ScanMill$Row", "rightAt", "(I)I"⟩ prog_5_method_9_code 2 (Option.some FieldType.int) ∈ wG := wG_t 229 (by decide +kernel) (by decide +kernel)
theorem mw_226 : Cond.methodLink "ScanMill$Liveness" 51 ⟨"ScanMill$Row", "rightAt", "(I)I"⟩ ∈ wG := wG_t 226 (by decide +kernel) (by decide +kernel)
theorem mw_227 : Cond.instanceMethod ⟨"ScanMill$Row", "rightAt", "(I)I"⟩ ∈ wG := wG_t 227 (by decide +kernel) (by decide +kernel)
theorem mw_228 : Cond.selects "ScanMill$Row" ⟨"ScanMill$Row", "rightAt", "(I)I"⟩ ⟨"ScanMill$Row", "rightAt", "(I)I"⟩ ∈ wG := wG_t 228 (by decide +kernel) (by decide +kernel)
theorem d_Liv_sweep_31 : decode prog_2_method_5_code 31 = .ok (.invokestatic 23, 3) := by decide +kernel
theorem d_Liv_sweep_34 : decode prog_2_method_5_code 34 = .ok (.ior, 1) := by decide +kernel
theorem d_Liv_sweep_35 : decode prog_2_method_5_code 35 = .ok (.istore 4, 2) := by decide +kernel
theorem d_Liv_sweep_37 : decode prog_2_method_5_code 37 = .ok (.iload 4, 2) := by decide +kernel
theorem d_Liv_sweep_39 : decode prog_2_method_5_code 39 = .ok (.aload_n 0, 1) := by decide +kernel
theorem d_Liv_sweep_40 : decode prog_2_method_5_code 40 = .ok (.aload_n 1, 1) := by decide +kernel
theorem d_Liv_sweep_41 : decode prog_2_method_5_code 41 = .ok (.iload_n 3, 1) := by decide +kernel
theorem d_Liv_sweep_42 : decode prog_2_method_5_code 42 = .ok (.invokevirtual 54, 3) := by decide +kernel
theorem mw_233 : Cond.code ⟨"ScanMill$Liveness", "setBehind", "(LScanMill$Row;I)I"⟩ prog_2_method_6_code 3 (Option.some FieldType.int) ∈ wG := wG_t 233 (by decide +kernel) (by decide +kernel)
theorem mw_230 : Cond.methodLink "ScanMill$Liveness" 54 ⟨"ScanMill$Liveness", "setBehind", "(LScanMill$Row;I)I"⟩ ∈ wG := wG_t 230 (by decide +kernel) (by decide +kernel)
theorem mw_232 : Cond.instanceMethod ⟨"ScanMill$Liveness", "setBehind", "(LScanMill$Row;I)I"⟩ ∈ wG := wG_t 232 (by decide +kernel) (by decide +kernel)
theorem mp_3 : Cond.selects "ScanMill$Liveness" ⟨"ScanMill$Liveness", "setBehind", "(LScanMill$Row;I)I"⟩ ⟨"ScanMill$Liveness", "setBehind", "(LScanMill$Row;I)I"⟩ ∈ wG := wG_p 3 (by decide +kernel) (by decide +kernel)
theorem d_Liv_sweep_45 : decode prog_2_method_5_code 45 = .ok (.aload_n 1, 1) := by decide +kernel
theorem d_Liv_sweep_46 : decode prog_2_method_5_code 46 = .ok (.iload_n 3, 1) := by decide +kernel
theorem d_Liv_sweep_47 : decode prog_2_method_5_code 47 = .ok (.invokevirtual 58, 3) := by decide +kernel
theorem mw_246 : Cond.code ⟨"ScanMill$Row", "setAt", "(I)I"⟩ prog_5_method_7_code 2 (Option.some FieldType.int) ∈ wG := wG_t 246 (by decide +kernel) (by decide +kernel)
theorem mw_243 : Cond.methodLink "ScanMill$Liveness" 58 ⟨"ScanMill$Row", "setAt", "(I)I"⟩ ∈ wG := wG_t 243 (by decide +kernel) (by decide +kernel)
theorem mw_244 : Cond.instanceMethod ⟨"ScanMill$Row", "setAt", "(I)I"⟩ ∈ wG := wG_t 244 (by decide +kernel) (by decide +kernel)
theorem mw_245 : Cond.selects "ScanMill$Row" ⟨"ScanMill$Row", "setAt", "(I)I"⟩ ⟨"ScanMill$Row", "setAt", "(I)I"⟩ ∈ wG := wG_t 245 (by decide +kernel) (by decide +kernel)
theorem d_Liv_sweep_50 : decode prog_2_method_5_code 50 = .ok (.invokestatic 23, 3) := by decide +kernel
theorem d_Liv_sweep_53 : decode prog_2_method_5_code 53 = .ok (.iconst (-1), 1) := by decide +kernel
theorem d_Liv_sweep_54 : decode prog_2_method_5_code 54 = .ok (.ixor, 1) := by decide +kernel
theorem d_Liv_sweep_55 : decode prog_2_method_5_code 55 = .ok (.iand, 1) := by decide +kernel
theorem d_Liv_sweep_56 : decode prog_2_method_5_code 56 = .ok (.ior, 1) := by decide +kernel
theorem d_Liv_sweep_57 : decode prog_2_method_5_code 57 = .ok (.istore 5, 2) := by decide +kernel
theorem d_Liv_sweep_59 : decode prog_2_method_5_code 59 = .ok (.iload 5, 2) := by decide +kernel
theorem d_Liv_sweep_61 : decode prog_2_method_5_code 61 = .ok (.aload_n 0, 1) := by decide +kernel
theorem d_Liv_sweep_62 : decode prog_2_method_5_code 62 = .ok (.getfield 9, 3) := by decide +kernel
theorem d_Liv_sweep_65 : decode prog_2_method_5_code 65 = .ok (.iload_n 3, 1) := by decide +kernel
theorem d_Liv_sweep_66 : decode prog_2_method_5_code 66 = .ok (.iaload, 1) := by decide +kernel
theorem d_Liv_sweep_67 : decode prog_2_method_5_code 67 = .ok (.if_icmp .eq 13, 3) := by decide +kernel
theorem d_Liv_sweep_80 : decode prog_2_method_5_code 80 = .ok (.iinc 3 (-1), 3) := by decide +kernel
theorem d_Liv_sweep_83 : decode prog_2_method_5_code 83 = .ok (.goto (-69), 3) := by decide +kernel
theorem d_Liv_sweep_70 : decode prog_2_method_5_code 70 = .ok (.aload_n 0, 1) := by decide +kernel
theorem d_Liv_sweep_71 : decode prog_2_method_5_code 71 = .ok (.getfield 9, 3) := by decide +kernel
theorem d_Liv_sweep_74 : decode prog_2_method_5_code 74 = .ok (.iload_n 3, 1) := by decide +kernel
theorem d_Liv_sweep_75 : decode prog_2_method_5_code 75 = .ok (.iload 5, 2) := by decide +kernel
theorem d_Liv_sweep_77 : decode prog_2_method_5_code 77 = .ok (.iastore, 1) := by decide +kernel
theorem d_Liv_sweep_78 : decode prog_2_method_5_code 78 = .ok (.iconst 1, 1) := by decide +kernel
theorem d_Liv_sweep_79 : decode prog_2_method_5_code 79 = .ok (.istore_n 2, 1) := by decide +kernel
set_option maxRecDepth 100000 in
set_option maxHeartbeats 4000000 in
theorem c_Liv_sweep {l : Launch} {dC : Nat → ClassId} {dI : Nat → Nat → Nat} {cI cZ : ClassId} {lv lf : Nat} {ff : Nat → Int32} {stl : Int32} {r rk ra rb rc n : Nat} {fk fa fb fc : Nat → Int32} (hn : n ≤ 60) : sm_I l y_Liv_sweep prog_2_method_5_code 6 (some .boolean) (rmF 4 85) (dC, dI) smC [(cI, .int), (cZ, .boolean)] [.ref lv, .ref r] [(lv, .inr (1, [.ref lf, .int stl])), (lf, .inl (cI, 61, .inl ff)), (r, .inr (0, [.ref rk, .ref ra, .ref rb, .ref rc, .int (nI n)])), (rk, .inl (cI, 60, .inl fk)), (ra, .inl (cI, 60, .inl fa)), (rb, .inl (cI, 60, .inl fb)), (rc, .inl (cI, 60, .inl fc))] (fun q w2 => q = ((swp n fk fa fb fc n ff 0).2) ∧ w2 = [(lv, .inr (1, [.ref lf, .int stl])), (lf, .inl (cI, 61, .inl ((swp n fk fa fb fc n ff 0).1))), (r, .inr (0, [.ref rk, .ref ra, .ref rb, .ref rc, .int (nI n)])), (rk, .inl (cI, 60, .inl fk)), (ra, .inl (cI, 60, .inl fa)), (rb, .inl (cI, 60, .inl fb)), (rc, .inl (cI, 60, .inl fc))]) := by
  refine sm_I.mk (by decide) (Nat.le_of_ble_eq_true rfl) ?_
  intro p e s m below meth c A H locs ls hx hb hr ht hown hlocks hml hnm hP hK hD hA hS hN hl
  have hl : lv_has ls 6 [(0, .ref lv), (1, .ref r)] := hl
  refine lv_iconst (v := 0) hx hb d_Liv_sweep_0 (by decide) ?_
  refine lv_istore_n (lv' := [(2, .int ((0 : Int32))), (0, .ref lv), (1, .ref r)]) hx hb d_Liv_sweep_1 rfl hl (by decide) rfl (fun ls hl => ?_)
  refine lv_aload_n hx hb d_Liv_sweep_2 rfl (lv_at hl 2 rfl) ?_
  refine sm_goi (wc := [(r, .inr (0, [.ref rk, .ref ra, .ref rb, .ref rc, .int (nI n)])), (rk, .inl (cI, 60, .inl fk)), (ra, .inl (cI, 60, .inl fa)), (rb, .inl (cI, 60, .inl fb)), (rc, .inl (cI, 60, .inl fc))]) (wr := [(lv, .inr (1, [.ref lf, .int stl])), (lf, .inl (cI, 61, .inl ff))]) (va_runV (As := []) (rest := []) ⟨hx, hb, hml, hown, ht⟩ ((c_Row_size (l := l) (dC := dC) (dI := dI) (cI := cI) (cZ := cZ) (r := r) (rk := rk) (ra := ra) (rb := rb) (rc := rc) (n := n) (fk := fk) (fa := fa) (fb := fb) (fc := fc) ).at H.size) (sm_cV 0 ht mw_182 mw_2 mw_206 mw_180 mw_181 rfl rfl (by decide +kernel) ⟨Nat.le_of_ble_eq_true rfl, Nat.le_of_ble_eq_true rfl⟩) (sm_preV (ci := 0) hN hK hP hD [2, 3, 4, 5, 6] rfl rfl (by decide) 2 rfl rfl) rfl rfl hl.1 rfl (lv_room (Nat.le_of_ble_eq_true rfl)) d_Liv_sweep_3 ⟨Nat.zero_le _, Nat.zero_le _⟩) hP hD hS hA [2, 3, 4, 5, 6] [0, 1] rfl rfl (by decide) (by decide) (fun r_3 w_3 H locs q_3 hP hD hS => ?_)
  obtain ⟨rfl, rfl⟩ := q_3
  have hP : va_P (dC, dI) smC [(lv, .inr (1, [.ref lf, .int stl])), (lf, .inl (cI, 61, .inl ff)), (r, .inr (0, [.ref rk, .ref ra, .ref rb, .ref rc, .int (nI n)])), (rk, .inl (cI, 60, .inl fk)), (ra, .inl (cI, 60, .inl fa)), (rb, .inl (cI, 60, .inl fb)), (rc, .inl (cI, 60, .inl fc))] H := hP
  have hD : va_D A [(lv, .inr (1, [.ref lf, .int stl])), (lf, .inl (cI, 61, .inl ff)), (r, .inr (0, [.ref rk, .ref ra, .ref rb, .ref rc, .int (nI n)])), (rk, .inl (cI, 60, .inl fk)), (ra, .inl (cI, 60, .inl fa)), (rb, .inl (cI, 60, .inl fb)), (rc, .inl (cI, 60, .inl fc))] := hD
  refine lv_bipush (v := 60) hx hb d_Liv_sweep_6 (by decide) ?_
  refine va_mmin hx hb (by rw [hml]; exact hl.1.symm) hown (ht _ mw_207) (ht _ mw_208) (ht _ mw_8) (ht _ mw_209) (Nat.le_of_ble_eq_true rfl) (Nat.le_of_ble_eq_true rfl) (Nat.zero_le _) (Nat.zero_le _) d_Liv_sweep_8 ?_
  refine sm_re (if_neg (nI_nlt (a := 60) (b := n) (by omega) (by decide))) ?_
  refine lv_iconst (v := 1) hx hb d_Liv_sweep_11 (by decide) ?_
  refine lv_isub hx hb d_Liv_sweep_12 ?_
  refine lv_istore_n (lv' := [(3, .int (nI n - 1)), (2, .int ((0 : Int32))), (0, .ref lv), (1, .ref r)]) hx hb d_Liv_sweep_13 rfl hl (by decide) rfl (fun ls hl => ?_)
  have loop_14 : ∀ (N_14 : Nat) (j : Nat) (gg : Nat → Int32) (ch : Int32), (j ≤ n) → (ch = 0 ∨ ch = 1) → (swp n fk fa fb fc j gg ch = swp n fk fa fb fc n ff 0) → j < N_14 → ∀ (H : Heap) (locs : List Loc), va_P (dC, dI) smC [(lv, .inr (1, [.ref lf, .int stl])), (lf, .inl (cI, 61, .inl gg)), (r, .inr (0, [.ref rk, .ref ra, .ref rb, .ref rc, .int (nI n)])), (rk, .inl (cI, 60, .inl fk)), (ra, .inl (cI, 60, .inl fa)), (rb, .inl (cI, 60, .inl fb)), (rc, .inl (cI, 60, .inl fc))] H → va_D A [(lv, .inr (1, [.ref lf, .int stl])), (lf, .inl (cI, 61, .inl gg)), (r, .inr (0, [.ref rk, .ref ra, .ref rb, .ref rc, .int (nI n)])), (rk, .inl (cI, 60, .inl fk)), (ra, .inl (cI, 60, .inl fa)), (rb, .inl (cI, 60, .inl fb)), (rc, .inl (cI, 60, .inl fc))] → va_S A s.heap H locs → ∀ ls : Array Slot, lv_has ls 6 [(0, .ref lv), (1, .ref r), (2, .int ch), (3, .int (nI j - 1))] → W p l e (rmF 4 85) s m ([.ref lv, .ref r] : List Value).toArray below meth c H locs 0 0 (MQ below (va_Qi (fun q w2 => q = ((swp n fk fa fb fc n ff 0).2) ∧ w2 = [(lv, .inr (1, [.ref lf, .int stl])), (lf, .inl (cI, 61, .inl ((swp n fk fa fb fc n ff 0).1))), (r, .inr (0, [.ref rk, .ref ra, .ref rb, .ref rc, .int (nI n)])), (rk, .inl (cI, 60, .inl fk)), (ra, .inl (cI, 60, .inl fa)), (rb, .inl (cI, 60, .inl fb)), (rc, .inl (cI, 60, .inl fc))]) (sm_B (dC, dI) smC [(cI, .int), (cZ, .boolean)] A) A) ([.ref lv, .ref r] : List Value).toArray s 0 0 A) (F0 m 14 ls []) := by
    intro N_14
    induction N_14 with
    | zero => intro j gg ch _ _ _ z; exact absurd z (Nat.not_lt_zero _)
    | succ N_14 ih_14 =>
      intro j gg ch hj h01 hv m_14 H locs hP hD hS ls hl
      refine lv_iload_n hx hb d_Liv_sweep_14 rfl (lv_at hl 3 rfl) ?_
      refine lv_if_lt (tgt := 86) hx hb d_Liv_sweep_15 (by decide) (fun c_15 => ?_) (fun c_15 => ?_)
      · skip
        obtain rfl : j = 0 := sm_pred0 (by omega) c_15
        refine lv_iload_n hx hb d_Liv_sweep_86 rfl (lv_at hl 2 rfl) ?_
        refine sm_rz (v := ch) (ws := [(lv, .inr (1, [.ref lf, .int stl])), (lf, .inl (cI, 61, .inl gg)), (r, .inr (0, [.ref rk, .ref ra, .ref rb, .ref rc, .int (nI n)])), (rk, .inl (cI, 60, .inl fk)), (ra, .inl (cI, 60, .inl fa)), (rb, .inl (cI, 60, .inl fb)), (rc, .inl (cI, 60, .inl fc))]) hx hb hr hlocks hK (hP.sub [0, 1, 2, 3, 4, 5, 6] rfl) (hD.sub [0, 1, 2, 3, 4, 5, 6] (by decide) rfl) hS h01 ?_ d_Liv_sweep_87
        exact ⟨by rw [← hv]; rfl, by rw [← hv]; rfl⟩
      · skip
        obtain ⟨i, rfl⟩ := sm_pred c_15
        rw [nI_pred] at hl
        refine lv_aload_n hx hb d_Liv_sweep_18 rfl (lv_at hl 1 rfl) ?_
        refine lv_iload_n hx hb d_Liv_sweep_19 rfl (lv_at hl 3 rfl) ?_
        refine sm_goi (wc := [(r, .inr (0, [.ref rk, .ref ra, .ref rb, .ref rc, .int (nI n)])), (rk, .inl (cI, 60, .inl fk)), (ra, .inl (cI, 60, .inl fa)), (rb, .inl (cI, 60, .inl fb)), (rc, .inl (cI, 60, .inl fc))]) (wr := [(lv, .inr (1, [.ref lf, .int stl])), (lf, .inl (cI, 61, .inl gg))]) (va_runV (As := [.int (nI i)]) (rest := []) ⟨hx, hb, hml, hown, ht⟩ ((c_Row_leftAt (l := l) (dC := dC) (dI := dI) (cI := cI) (cZ := cZ) (r := r) (rk := rk) (ra := ra) (rb := rb) (rc := rc) (n := n) (fk := fk) (fa := fa) (fb := fb) (fc := fc) (k := nI i) (by first | assumption | omega)).at H.size) (sm_cV 1 ht mw_213 mw_2 mw_210 mw_211 mw_212 rfl rfl (by decide +kernel) ⟨Nat.le_of_ble_eq_true rfl, Nat.le_of_ble_eq_true rfl⟩) (sm_preV (ci := 0) hN hK hP hD [2, 3, 4, 5, 6] rfl rfl (by decide) 2 rfl rfl) rfl rfl hl.1 rfl (lv_room (Nat.le_of_ble_eq_true rfl)) d_Liv_sweep_20 ⟨Nat.zero_le _, Nat.zero_le _⟩) hP hD hS hA [2, 3, 4, 5, 6] [0, 1] rfl rfl (by decide) (by decide) (fun r_20 w_20 H locs q_20 hP hD hS => ?_)
        obtain ⟨rfl, rfl⟩ := q_20
        have hP : va_P (dC, dI) smC [(lv, .inr (1, [.ref lf, .int stl])), (lf, .inl (cI, 61, .inl gg)), (r, .inr (0, [.ref rk, .ref ra, .ref rb, .ref rc, .int (nI n)])), (rk, .inl (cI, 60, .inl fk)), (ra, .inl (cI, 60, .inl fa)), (rb, .inl (cI, 60, .inl fb)), (rc, .inl (cI, 60, .inl fc))] H := hP
        have hD : va_D A [(lv, .inr (1, [.ref lf, .int stl])), (lf, .inl (cI, 61, .inl gg)), (r, .inr (0, [.ref rk, .ref ra, .ref rb, .ref rc, .int (nI n)])), (rk, .inl (cI, 60, .inl fk)), (ra, .inl (cI, 60, .inl fa)), (rb, .inl (cI, 60, .inl fb)), (rc, .inl (cI, 60, .inl fc))] := hD
        refine sm_goi (wc := []) (wr := [(lv, .inr (1, [.ref lf, .int stl])), (lf, .inl (cI, 61, .inl gg)), (r, .inr (0, [.ref rk, .ref ra, .ref rb, .ref rc, .int (nI n)])), (rk, .inl (cI, 60, .inl fk)), (ra, .inl (cI, 60, .inl fa)), (rb, .inl (cI, 60, .inl fb)), (rc, .inl (cI, 60, .inl fc))]) (va_runS (As := [.int (lA n fk fa fb (nI i))]) (rest := []) ⟨hx, hb, hml, hown, ht⟩ ((c_Liv_bit (l := l) (dC := dC) (dI := dI) (cI := cI) (cZ := cZ) (v := lA n fk fa fb (nI i)) ).at H.size) (sm_cS 1 ht mw_224 mw_3 mw_222 mw_223 rfl rfl (by decide +kernel) ⟨Nat.le_of_ble_eq_true rfl, Nat.le_of_ble_eq_true rfl⟩) (sm_preS hN hK hP hD [] rfl rfl (by decide)) rfl rfl hl.1 rfl (lv_room (Nat.le_of_ble_eq_true rfl)) d_Liv_sweep_23 ⟨Nat.zero_le _, Nat.zero_le _⟩) hP hD hS hA [] [0, 1, 2, 3, 4, 5, 6] rfl rfl (by decide) (by decide) (fun r_23 w_23 H locs q_23 hP hD hS => ?_)
        obtain ⟨rfl, rfl⟩ := q_23
        have hP : va_P (dC, dI) smC [(lv, .inr (1, [.ref lf, .int stl])), (lf, .inl (cI, 61, .inl gg)), (r, .inr (0, [.ref rk, .ref ra, .ref rb, .ref rc, .int (nI n)])), (rk, .inl (cI, 60, .inl fk)), (ra, .inl (cI, 60, .inl fa)), (rb, .inl (cI, 60, .inl fb)), (rc, .inl (cI, 60, .inl fc))] H := hP
        have hD : va_D A [(lv, .inr (1, [.ref lf, .int stl])), (lf, .inl (cI, 61, .inl gg)), (r, .inr (0, [.ref rk, .ref ra, .ref rb, .ref rc, .int (nI n)])), (rk, .inl (cI, 60, .inl fk)), (ra, .inl (cI, 60, .inl fa)), (rb, .inl (cI, 60, .inl fb)), (rc, .inl (cI, 60, .inl fc))] := hD
        refine lv_aload_n hx hb d_Liv_sweep_26 rfl (lv_at hl 1 rfl) ?_
        refine lv_iload_n hx hb d_Liv_sweep_27 rfl (lv_at hl 3 rfl) ?_
        refine sm_goi (wc := [(r, .inr (0, [.ref rk, .ref ra, .ref rb, .ref rc, .int (nI n)])), (rk, .inl (cI, 60, .inl fk)), (ra, .inl (cI, 60, .inl fa)), (rb, .inl (cI, 60, .inl fb)), (rc, .inl (cI, 60, .inl fc))]) (wr := [(lv, .inr (1, [.ref lf, .int stl])), (lf, .inl (cI, 61, .inl gg))]) (va_runV (As := [.int (nI i)]) (rest := [.int (bitV (lA n fk fa fb (nI i)))]) ⟨hx, hb, hml, hown, ht⟩ ((c_Row_rightAt (l := l) (dC := dC) (dI := dI) (cI := cI) (cZ := cZ) (r := r) (rk := rk) (ra := ra) (rb := rb) (rc := rc) (n := n) (fk := fk) (fa := fa) (fb := fb) (fc := fc) (k := nI i) (by first | assumption | omega)).at H.size) (sm_cV 1 ht mw_229 mw_2 mw_226 mw_227 mw_228 rfl rfl (by decide +kernel) ⟨Nat.le_of_ble_eq_true rfl, Nat.le_of_ble_eq_true rfl⟩) (sm_preV (ci := 0) hN hK hP hD [2, 3, 4, 5, 6] rfl rfl (by decide) 2 rfl rfl) rfl rfl hl.1 rfl (lv_room (Nat.le_of_ble_eq_true rfl)) d_Liv_sweep_28 ⟨Nat.zero_le _, Nat.zero_le _⟩) hP hD hS hA [2, 3, 4, 5, 6] [0, 1] rfl rfl (by decide) (by decide) (fun r_28 w_28 H locs q_28 hP hD hS => ?_)
        obtain ⟨rfl, rfl⟩ := q_28
        have hP : va_P (dC, dI) smC [(lv, .inr (1, [.ref lf, .int stl])), (lf, .inl (cI, 61, .inl gg)), (r, .inr (0, [.ref rk, .ref ra, .ref rb, .ref rc, .int (nI n)])), (rk, .inl (cI, 60, .inl fk)), (ra, .inl (cI, 60, .inl fa)), (rb, .inl (cI, 60, .inl fb)), (rc, .inl (cI, 60, .inl fc))] H := hP
        have hD : va_D A [(lv, .inr (1, [.ref lf, .int stl])), (lf, .inl (cI, 61, .inl gg)), (r, .inr (0, [.ref rk, .ref ra, .ref rb, .ref rc, .int (nI n)])), (rk, .inl (cI, 60, .inl fk)), (ra, .inl (cI, 60, .inl fa)), (rb, .inl (cI, 60, .inl fb)), (rc, .inl (cI, 60, .inl fc))] := hD
        refine sm_goi (wc := []) (wr := [(lv, .inr (1, [.ref lf, .int stl])), (lf, .inl (cI, 61, .inl gg)), (r, .inr (0, [.ref rk, .ref ra, .ref rb, .ref rc, .int (nI n)])), (rk, .inl (cI, 60, .inl fk)), (ra, .inl (cI, 60, .inl fa)), (rb, .inl (cI, 60, .inl fb)), (rc, .inl (cI, 60, .inl fc))]) (va_runS (As := [.int (rA n fk fc (nI i))]) (rest := [.int (bitV (lA n fk fa fb (nI i)))]) ⟨hx, hb, hml, hown, ht⟩ ((c_Liv_bit (l := l) (dC := dC) (dI := dI) (cI := cI) (cZ := cZ) (v := rA n fk fc (nI i)) ).at H.size) (sm_cS 1 ht mw_224 mw_3 mw_222 mw_223 rfl rfl (by decide +kernel) ⟨Nat.le_of_ble_eq_true rfl, Nat.le_of_ble_eq_true rfl⟩) (sm_preS hN hK hP hD [] rfl rfl (by decide)) rfl rfl hl.1 rfl (lv_room (Nat.le_of_ble_eq_true rfl)) d_Liv_sweep_31 ⟨Nat.zero_le _, Nat.zero_le _⟩) hP hD hS hA [] [0, 1, 2, 3, 4, 5, 6] rfl rfl (by decide) (by decide) (fun r_31 w_31 H locs q_31 hP hD hS => ?_)
        obtain ⟨rfl, rfl⟩ := q_31
        have hP : va_P (dC, dI) smC [(lv, .inr (1, [.ref lf, .int stl])), (lf, .inl (cI, 61, .inl gg)), (r, .inr (0, [.ref rk, .ref ra, .ref rb, .ref rc, .int (nI n)])), (rk, .inl (cI, 60, .inl fk)), (ra, .inl (cI, 60, .inl fa)), (rb, .inl (cI, 60, .inl fb)), (rc, .inl (cI, 60, .inl fc))] H := hP
        have hD : va_D A [(lv, .inr (1, [.ref lf, .int stl])), (lf, .inl (cI, 61, .inl gg)), (r, .inr (0, [.ref rk, .ref ra, .ref rb, .ref rc, .int (nI n)])), (rk, .inl (cI, 60, .inl fk)), (ra, .inl (cI, 60, .inl fa)), (rb, .inl (cI, 60, .inl fb)), (rc, .inl (cI, 60, .inl fc))] := hD
        refine lv_ior hx hb d_Liv_sweep_34 ?_
        refine lv_istore (lv' := [(4, .int ((bitV (lA n fk fa fb (nI i))) ||| (bitV (rA n fk fc (nI i))))), (0, .ref lv), (1, .ref r), (2, .int ch), (3, .int (nI i))]) hx hb d_Liv_sweep_35 hl (by decide) rfl (fun ls hl => ?_)
        refine lv_iload hx hb d_Liv_sweep_37 (lv_at hl 0 rfl) ?_
        refine lv_aload_n hx hb d_Liv_sweep_39 rfl (lv_at hl 1 rfl) ?_
        refine lv_aload_n hx hb d_Liv_sweep_40 rfl (lv_at hl 2 rfl) ?_
        refine lv_iload_n hx hb d_Liv_sweep_41 rfl (lv_at hl 4 rfl) ?_
        refine sm_goi (wc := [(lv, .inr (1, [.ref lf, .int stl])), (lf, .inl (cI, 61, .inl gg)), (r, .inr (0, [.ref rk, .ref ra, .ref rb, .ref rc, .int (nI n)])), (rk, .inl (cI, 60, .inl fk)), (ra, .inl (cI, 60, .inl fa)), (rb, .inl (cI, 60, .inl fb)), (rc, .inl (cI, 60, .inl fc))]) (wr := []) (va_runV (As := [.ref r, .int (nI i)]) (rest := [.int ((bitV (lA n fk fa fb (nI i))) ||| (bitV (rA n fk fc (nI i))))]) ⟨hx, hb, hml, hown, ht⟩ ((c_Liv_setBehind (l := l) (dC := dC) (dI := dI) (cI := cI) (cZ := cZ) (lv := lv) (lf := lf) (ff := gg) (stl := stl) (r := r) (rk := rk) (ra := ra) (rb := rb) (rc := rc) (n := n) (fk := fk) (fa := fa) (fb := fb) (fc := fc) (k := nI i) (by first | assumption | omega)).at H.size) (sm_cV 2 ht mw_233 mw_3 mw_230 mw_232 mp_3 rfl rfl (by decide +kernel) ⟨Nat.le_of_ble_eq_true rfl, Nat.le_of_ble_eq_true rfl⟩) (sm_preV (ci := 1) hN hK hP hD [0, 1, 2, 3, 4, 5, 6] rfl rfl (by decide) 0 rfl rfl) rfl rfl hl.1 rfl (lv_room (Nat.le_of_ble_eq_true rfl)) d_Liv_sweep_42 ⟨Nat.zero_le _, Nat.zero_le _⟩) hP hD hS hA [0, 1, 2, 3, 4, 5, 6] [] rfl rfl (by decide) (by decide) (fun r_42 w_42 H locs q_42 hP hD hS => ?_)
        obtain ⟨rfl, rfl⟩ := q_42
        have hP : va_P (dC, dI) smC [(lv, .inr (1, [.ref lf, .int stl])), (lf, .inl (cI, 61, .inl gg)), (r, .inr (0, [.ref rk, .ref ra, .ref rb, .ref rc, .int (nI n)])), (rk, .inl (cI, 60, .inl fk)), (ra, .inl (cI, 60, .inl fa)), (rb, .inl (cI, 60, .inl fb)), (rc, .inl (cI, 60, .inl fc))] H := hP
        have hD : va_D A [(lv, .inr (1, [.ref lf, .int stl])), (lf, .inl (cI, 61, .inl gg)), (r, .inr (0, [.ref rk, .ref ra, .ref rb, .ref rc, .int (nI n)])), (rk, .inl (cI, 60, .inl fk)), (ra, .inl (cI, 60, .inl fa)), (rb, .inl (cI, 60, .inl fb)), (rc, .inl (cI, 60, .inl fc))] := hD
        refine lv_aload_n hx hb d_Liv_sweep_45 rfl (lv_at hl 2 rfl) ?_
        refine lv_iload_n hx hb d_Liv_sweep_46 rfl (lv_at hl 4 rfl) ?_
        refine sm_goi (wc := [(r, .inr (0, [.ref rk, .ref ra, .ref rb, .ref rc, .int (nI n)])), (rk, .inl (cI, 60, .inl fk)), (ra, .inl (cI, 60, .inl fa)), (rb, .inl (cI, 60, .inl fb)), (rc, .inl (cI, 60, .inl fc))]) (wr := [(lv, .inr (1, [.ref lf, .int stl])), (lf, .inl (cI, 61, .inl gg))]) (va_runV (As := [.int (nI i)]) (rest := [.int (sBh n fk fa fb gg (nI i)), .int ((bitV (lA n fk fa fb (nI i))) ||| (bitV (rA n fk fc (nI i))))]) ⟨hx, hb, hml, hown, ht⟩ ((c_Row_setAt (l := l) (dC := dC) (dI := dI) (cI := cI) (cZ := cZ) (r := r) (rk := rk) (ra := ra) (rb := rb) (rc := rc) (n := n) (fk := fk) (fa := fa) (fb := fb) (fc := fc) (k := nI i) (by first | assumption | omega)).at H.size) (sm_cV 1 ht mw_246 mw_2 mw_243 mw_244 mw_245 rfl rfl (by decide +kernel) ⟨Nat.le_of_ble_eq_true rfl, Nat.le_of_ble_eq_true rfl⟩) (sm_preV (ci := 0) hN hK hP hD [2, 3, 4, 5, 6] rfl rfl (by decide) 2 rfl rfl) rfl rfl hl.1 rfl (lv_room (Nat.le_of_ble_eq_true rfl)) d_Liv_sweep_47 ⟨Nat.zero_le _, Nat.zero_le _⟩) hP hD hS hA [2, 3, 4, 5, 6] [0, 1] rfl rfl (by decide) (by decide) (fun r_47 w_47 H locs q_47 hP hD hS => ?_)
        obtain ⟨rfl, rfl⟩ := q_47
        have hP : va_P (dC, dI) smC [(lv, .inr (1, [.ref lf, .int stl])), (lf, .inl (cI, 61, .inl gg)), (r, .inr (0, [.ref rk, .ref ra, .ref rb, .ref rc, .int (nI n)])), (rk, .inl (cI, 60, .inl fk)), (ra, .inl (cI, 60, .inl fa)), (rb, .inl (cI, 60, .inl fb)), (rc, .inl (cI, 60, .inl fc))] H := hP
        have hD : va_D A [(lv, .inr (1, [.ref lf, .int stl])), (lf, .inl (cI, 61, .inl gg)), (r, .inr (0, [.ref rk, .ref ra, .ref rb, .ref rc, .int (nI n)])), (rk, .inl (cI, 60, .inl fk)), (ra, .inl (cI, 60, .inl fa)), (rb, .inl (cI, 60, .inl fb)), (rc, .inl (cI, 60, .inl fc))] := hD
        refine sm_goi (wc := []) (wr := [(lv, .inr (1, [.ref lf, .int stl])), (lf, .inl (cI, 61, .inl gg)), (r, .inr (0, [.ref rk, .ref ra, .ref rb, .ref rc, .int (nI n)])), (rk, .inl (cI, 60, .inl fk)), (ra, .inl (cI, 60, .inl fa)), (rb, .inl (cI, 60, .inl fb)), (rc, .inl (cI, 60, .inl fc))]) (va_runS (As := [.int (sA n fk fa (nI i))]) (rest := [.int (sBh n fk fa fb gg (nI i)), .int ((bitV (lA n fk fa fb (nI i))) ||| (bitV (rA n fk fc (nI i))))]) ⟨hx, hb, hml, hown, ht⟩ ((c_Liv_bit (l := l) (dC := dC) (dI := dI) (cI := cI) (cZ := cZ) (v := sA n fk fa (nI i)) ).at H.size) (sm_cS 1 ht mw_224 mw_3 mw_222 mw_223 rfl rfl (by decide +kernel) ⟨Nat.le_of_ble_eq_true rfl, Nat.le_of_ble_eq_true rfl⟩) (sm_preS hN hK hP hD [] rfl rfl (by decide)) rfl rfl hl.1 rfl (lv_room (Nat.le_of_ble_eq_true rfl)) d_Liv_sweep_50 ⟨Nat.zero_le _, Nat.zero_le _⟩) hP hD hS hA [] [0, 1, 2, 3, 4, 5, 6] rfl rfl (by decide) (by decide) (fun r_50 w_50 H locs q_50 hP hD hS => ?_)
        obtain ⟨rfl, rfl⟩ := q_50
        have hP : va_P (dC, dI) smC [(lv, .inr (1, [.ref lf, .int stl])), (lf, .inl (cI, 61, .inl gg)), (r, .inr (0, [.ref rk, .ref ra, .ref rb, .ref rc, .int (nI n)])), (rk, .inl (cI, 60, .inl fk)), (ra, .inl (cI, 60, .inl fa)), (rb, .inl (cI, 60, .inl fb)), (rc, .inl (cI, 60, .inl fc))] H := hP
        have hD : va_D A [(lv, .inr (1, [.ref lf, .int stl])), (lf, .inl (cI, 61, .inl gg)), (r, .inr (0, [.ref rk, .ref ra, .ref rb, .ref rc, .int (nI n)])), (rk, .inl (cI, 60, .inl fk)), (ra, .inl (cI, 60, .inl fa)), (rb, .inl (cI, 60, .inl fb)), (rc, .inl (cI, 60, .inl fc))] := hD
        refine lv_iconst (v := -1) hx hb d_Liv_sweep_53 (by decide) ?_
        refine lv_ixor hx hb d_Liv_sweep_54 ?_
        refine lv_iand hx hb d_Liv_sweep_55 ?_
        refine lv_ior hx hb d_Liv_sweep_56 ?_
        refine lv_istore (lv' := [(5, .int (((bitV (lA n fk fa fb (nI i))) ||| (bitV (rA n fk fc (nI i)))) ||| ((sBh n fk fa fb gg (nI i)) &&& ((bitV (sA n fk fa (nI i))) ^^^ ((-1 : Int32)))))), (4, .int ((bitV (lA n fk fa fb (nI i))) ||| (bitV (rA n fk fc (nI i))))), (0, .ref lv), (1, .ref r), (2, .int ch), (3, .int (nI i))]) hx hb d_Liv_sweep_57 hl (by decide) rfl (fun ls hl => ?_)
        refine lv_iload hx hb d_Liv_sweep_59 (lv_at hl 0 rfl) ?_
        refine lv_aload_n hx hb d_Liv_sweep_61 rfl (lv_at hl 2 rfl) ?_
        refine va_get (D := (dC, dI)) (ci := 1) (v := .ref lf) (C := R_Liv) (T := T_Liv) (N := 2) hx hb ht i_Liv hown hK hP 0 rfl rfl 0 (by decide) (ht _ mw_52) (fun _ h9 => h9) rfl d_Liv_sweep_62 ?_
        refine lv_iload_n hx hb d_Liv_sweep_65 rfl (lv_at hl 5 rfl) ?_
        refine sm_iald (j := i) hx hb hK hP 1 0 rfl rfl (vp_in_nI (by first | omega | assumption) (by first | decide | omega)) (nI_clamp (by first | omega | (have := sm_lt31; omega))) d_Liv_sweep_66 ?_
        refine lv_icmp_eq (tgt := 80) hx hb d_Liv_sweep_67 (by decide) (fun c_67 => ?_) (fun c_67 => ?_)
        · skip
          refine lv_iinc (v := nI i - 1) (lv' := [(3, .int (nI i - 1)), (5, .int (((bitV (lA n fk fa fb (nI i))) ||| (bitV (rA n fk fc (nI i)))) ||| ((sBh n fk fa fb gg (nI i)) &&& ((bitV (sA n fk fa (nI i))) ^^^ ((-1 : Int32)))))), (4, .int ((bitV (lA n fk fa fb (nI i))) ||| (bitV (rA n fk fc (nI i))))), (0, .ref lv), (1, .ref r), (2, .int ch)]) hx hb d_Liv_sweep_80 hl (k := 5) rfl (sm_dec _) (by decide) rfl (fun ls hl => ?_)
          refine lv_goto (tgt := 14) hx hb d_Liv_sweep_83 (by decide) ?_
          exact ih_14 i gg ch (by omega) h01 (by rw [← hv, swp]; exact (if_pos c_67).symm) (by omega) _ _ (hP.sub [0, 1, 2, 3, 4, 5, 6] rfl) (hD.sub [0, 1, 2, 3, 4, 5, 6] (by decide) rfl) hS _ (lv_sub hl [3, 4, 5, 0] rfl)
        · skip
          refine lv_aload_n hx hb d_Liv_sweep_70 rfl (lv_at hl 2 rfl) ?_
          refine va_get (D := (dC, dI)) (ci := 1) (v := .ref lf) (C := R_Liv) (T := T_Liv) (N := 2) hx hb ht i_Liv hown hK hP 0 rfl rfl 0 (by decide) (ht _ mw_52) (fun _ h9 => h9) rfl d_Liv_sweep_71 ?_
          refine lv_iload_n hx hb d_Liv_sweep_74 rfl (lv_at hl 5 rfl) ?_
          refine lv_iload hx hb d_Liv_sweep_75 (lv_at hl 0 rfl) ?_
          refine sm_iast (j := i) hx hb hK hP hD hS 1 0 rfl rfl (vp_in_nI (by first | omega | assumption) (by first | decide | omega)) (nI_clamp (by first | omega | (have := sm_lt31; omega))) d_Liv_sweep_77 (fun H locs hP hD hS => ?_)
          have hP : va_P (dC, dI) smC [(lv, .inr (1, [.ref lf, .int stl])), (lf, .inl (cI, 61, .inl (upd gg i (((bitV (lA n fk fa fb (nI i))) ||| (bitV (rA n fk fc (nI i)))) ||| ((sBh n fk fa fb gg (nI i)) &&& ((bitV (sA n fk fa (nI i))) ^^^ ((-1 : Int32)))))))), (r, .inr (0, [.ref rk, .ref ra, .ref rb, .ref rc, .int (nI n)])), (rk, .inl (cI, 60, .inl fk)), (ra, .inl (cI, 60, .inl fa)), (rb, .inl (cI, 60, .inl fb)), (rc, .inl (cI, 60, .inl fc))] H := hP
          have hD : va_D A [(lv, .inr (1, [.ref lf, .int stl])), (lf, .inl (cI, 61, .inl (upd gg i (((bitV (lA n fk fa fb (nI i))) ||| (bitV (rA n fk fc (nI i)))) ||| ((sBh n fk fa fb gg (nI i)) &&& ((bitV (sA n fk fa (nI i))) ^^^ ((-1 : Int32)))))))), (r, .inr (0, [.ref rk, .ref ra, .ref rb, .ref rc, .int (nI n)])), (rk, .inl (cI, 60, .inl fk)), (ra, .inl (cI, 60, .inl fa)), (rb, .inl (cI, 60, .inl fb)), (rc, .inl (cI, 60, .inl fc))] := hD
          refine lv_iconst (v := 1) hx hb d_Liv_sweep_78 (by decide) ?_
          refine lv_istore_n (lv' := [(2, .int ((1 : Int32))), (5, .int (((bitV (lA n fk fa fb (nI i))) ||| (bitV (rA n fk fc (nI i)))) ||| ((sBh n fk fa fb gg (nI i)) &&& ((bitV (sA n fk fa (nI i))) ^^^ ((-1 : Int32)))))), (4, .int ((bitV (lA n fk fa fb (nI i))) ||| (bitV (rA n fk fc (nI i))))), (0, .ref lv), (1, .ref r), (3, .int (nI i))]) hx hb d_Liv_sweep_79 rfl hl (by decide) rfl (fun ls hl => ?_)
          refine lv_iinc (v := nI i - 1) (lv' := [(3, .int (nI i - 1)), (2, .int ((1 : Int32))), (5, .int (((bitV (lA n fk fa fb (nI i))) ||| (bitV (rA n fk fc (nI i)))) ||| ((sBh n fk fa fb gg (nI i)) &&& ((bitV (sA n fk fa (nI i))) ^^^ ((-1 : Int32)))))), (4, .int ((bitV (lA n fk fa fb (nI i))) ||| (bitV (rA n fk fc (nI i))))), (0, .ref lv), (1, .ref r)]) hx hb d_Liv_sweep_80 hl (k := 5) rfl (sm_dec _) (by decide) rfl (fun ls hl => ?_)
          refine lv_goto (tgt := 14) hx hb d_Liv_sweep_83 (by decide) ?_
          exact ih_14 i (upd gg i (((bitV (lA n fk fa fb (nI i))) ||| (bitV (rA n fk fc (nI i)))) ||| ((sBh n fk fa fb gg (nI i)) &&& ((bitV (sA n fk fa (nI i))) ^^^ ((-1 : Int32)))))) ((1 : Int32)) (by omega) (Or.inr rfl) (by rw [← hv, swp]; exact (if_neg c_67).symm) (by omega) _ _ (hP.sub [0, 1, 2, 3, 4, 5, 6] rfl) (hD.sub [0, 1, 2, 3, 4, 5, 6] (by decide) rfl) hS _ (lv_sub hl [4, 5, 1, 0] rfl)
  exact loop_14 (n + 1) n ff ((0 : Int32)) (Nat.le_refl n) (Or.inl rfl) rfl (by omega) _ _ (hP.sub [0, 1, 2, 3, 4, 5, 6] rfl) (hD.sub [0, 1, 2, 3, 4, 5, 6] (by decide) rfl) hS _ (lv_sub hl [2, 3, 1, 0] rfl)
abbrev y_Liv_follow : MethodName := ⟨"ScanMill$Liveness", "follow", "(LScanMill$Row;)V"⟩
theorem d_Liv_follow_0 : decode prog_2_method_4_code 0 = .ok (.aload_n 0, 1) := by decide +kernel
theorem d_Liv_follow_1 : decode prog_2_method_4_code 1 = .ok (.getfield 15, 3) := by decide +kernel
theorem d_Liv_follow_4 : decode prog_2_method_4_code 4 = .ok (.ifCond .ne 4, 3) := by decide +kernel
theorem d_Liv_follow_8 : decode prog_2_method_4_code 8 = .ok (.aload_n 0, 1) := by decide +kernel
theorem d_Liv_follow_9 : decode prog_2_method_4_code 9 = .ok (.getfield 9, 3) := by decide +kernel
theorem d_Liv_follow_12 : decode prog_2_method_4_code 12 = .ok (.iconst 0, 1) := by decide +kernel
theorem d_Liv_follow_13 : decode prog_2_method_4_code 13 = .ok (.invokestatic 26, 3) := by decide +kernel
theorem mw_201 : Cond.code ⟨"java/util/Arrays", "fill", "([II)V"⟩ prog_15_method_103_code 4 (Option.none : Option FieldType) ∈ wG := wG_t 201 (by decide +kernel) (by decide +kernel)
theorem mw_7 : Cond.initialized "java/util/Arrays" ∈ wG := wG_t 7 (by decide +kernel) (by decide +kernel)
theorem mw_200 : Cond.static ⟨"java/util/Arrays", "fill", "([II)V"⟩ ∈ wG := wG_t 200 (by decide +kernel) (by decide +kernel)
theorem mw_199 : Cond.methodLink "ScanMill$Liveness" 26 ⟨"java/util/Arrays", "fill", "([II)V"⟩ ∈ wG := wG_t 199 (by decide +kernel) (by decide +kernel)
theorem d_Liv_follow_16 : decode prog_2_method_4_code 16 = .ok (.iconst 1, 1) := by decide +kernel
theorem d_Liv_follow_17 : decode prog_2_method_4_code 17 = .ok (.istore_n 2, 1) := by decide +kernel
theorem d_Liv_follow_18 : decode prog_2_method_4_code 18 = .ok (.iconst 0, 1) := by decide +kernel
theorem d_Liv_follow_19 : decode prog_2_method_4_code 19 = .ok (.istore_n 3, 1) := by decide +kernel
theorem d_Liv_follow_20 : decode prog_2_method_4_code 20 = .ok (.iload_n 3, 1) := by decide +kernel
theorem d_Liv_follow_21 : decode prog_2_method_4_code 21 = .ok (.bipush 60, 2) := by decide +kernel
theorem d_Liv_follow_23 : decode prog_2_method_4_code 23 = .ok (.if_icmp .gt 19, 3) := by decide +kernel
theorem d_Liv_follow_42 : decode prog_2_method_4_code 42 = .ok (.aload_n 0, 1) := by decide +kernel
theorem d_Liv_follow_43 : decode prog_2_method_4_code 43 = .ok (.iconst 0, 1) := by decide +kernel
theorem d_Liv_follow_44 : decode prog_2_method_4_code 44 = .ok (.putfield 15, 3) := by decide +kernel
theorem d_Liv_follow_47 : decode prog_2_method_4_code 47 = .ok (.return_, 1) := by decide +kernel
theorem d_Liv_follow_26 : decode prog_2_method_4_code 26 = .ok (.iload_n 2, 1) := by decide +kernel
theorem d_Liv_follow_27 : decode prog_2_method_4_code 27 = .ok (.ifCond .eq 15, 3) := by decide +kernel
theorem d_Liv_follow_30 : decode prog_2_method_4_code 30 = .ok (.aload_n 0, 1) := by decide +kernel
theorem d_Liv_follow_31 : decode prog_2_method_4_code 31 = .ok (.aload_n 1, 1) := by decide +kernel
theorem d_Liv_follow_32 : decode prog_2_method_4_code 32 = .ok (.invokevirtual 32, 3) := by decide +kernel
theorem mw_205 : Cond.code ⟨"ScanMill$Liveness", "sweep", "(LScanMill$Row;)Z"⟩ prog_2_method_5_code 6 (Option.some FieldType.boolean) ∈ wG := wG_t 205 (by decide +kernel) (by decide +kernel)
theorem mw_202 : Cond.methodLink "ScanMill$Liveness" 32 ⟨"ScanMill$Liveness", "sweep", "(LScanMill$Row;)Z"⟩ ∈ wG := wG_t 202 (by decide +kernel) (by decide +kernel)
theorem mw_204 : Cond.instanceMethod ⟨"ScanMill$Liveness", "sweep", "(LScanMill$Row;)Z"⟩ ∈ wG := wG_t 204 (by decide +kernel) (by decide +kernel)
theorem mp_1 : Cond.selects "ScanMill$Liveness" ⟨"ScanMill$Liveness", "sweep", "(LScanMill$Row;)Z"⟩ ⟨"ScanMill$Liveness", "sweep", "(LScanMill$Row;)Z"⟩ ∈ wG := wG_p 1 (by decide +kernel) (by decide +kernel)
theorem d_Liv_follow_35 : decode prog_2_method_4_code 35 = .ok (.istore_n 2, 1) := by decide +kernel
theorem d_Liv_follow_36 : decode prog_2_method_4_code 36 = .ok (.iinc 3 1, 3) := by decide +kernel
theorem d_Liv_follow_39 : decode prog_2_method_4_code 39 = .ok (.goto (-19), 3) := by decide +kernel
theorem d_Liv_follow_7 : decode prog_2_method_4_code 7 = .ok (.return_, 1) := by decide +kernel
set_option maxRecDepth 100000 in
set_option maxHeartbeats 4000000 in
theorem c_Liv_follow {l : Launch} {dC : Nat → ClassId} {dI : Nat → Nat → Nat} {cI cZ : ClassId} {lv lf : Nat} {ff : Nat → Int32} {stl : Int32} {r rk ra rb rc n : Nat} {fk fa fb fc : Nat → Int32} (hn : n ≤ 60) : sm_V l y_Liv_follow prog_2_method_4_code 4 none (rmF 5 110) (dC, dI) smC [(cI, .int), (cZ, .boolean)] [.ref lv, .ref r] [(lv, .inr (1, [.ref lf, .int stl])), (lf, .inl (cI, 61, .inl ff)), (r, .inr (0, [.ref rk, .ref ra, .ref rb, .ref rc, .int (nI n)])), (rk, .inl (cI, 60, .inl fk)), (ra, .inl (cI, 60, .inl fa)), (rb, .inl (cI, 60, .inl fb)), (rc, .inl (cI, 60, .inl fc))] (fun w2 => (stl = 0 ∧ w2 = [(lv, .inr (1, [.ref lf, .int stl])), (lf, .inl (cI, 61, .inl ff)), (r, .inr (0, [.ref rk, .ref ra, .ref rb, .ref rc, .int (nI n)])), (rk, .inl (cI, 60, .inl fk)), (ra, .inl (cI, 60, .inl fa)), (rb, .inl (cI, 60, .inl fb)), (rc, .inl (cI, 60, .inl fc))]) ∨ (¬ stl = 0 ∧ w2 = [(lv, .inr (1, [.ref lf, .int ((0 : Int32))])), (lf, .inl (cI, 61, .inl (flw n fk fa fb fc 61 (fun _ => 0) 1))), (r, .inr (0, [.ref rk, .ref ra, .ref rb, .ref rc, .int (nI n)])), (rk, .inl (cI, 60, .inl fk)), (ra, .inl (cI, 60, .inl fa)), (rb, .inl (cI, 60, .inl fb)), (rc, .inl (cI, 60, .inl fc))])) := by
  refine sm_V.mk (by decide) (Nat.le_of_ble_eq_true rfl) ?_
  intro p e s m below meth c A H locs ls hx hb hr ht hown hlocks hml hnm hP hK hD hA hS hN hl
  have hl : lv_has ls 4 [(0, .ref lv), (1, .ref r)] := hl
  refine lv_aload_n hx hb d_Liv_follow_0 rfl (lv_at hl 0 rfl) ?_
  refine va_get (D := (dC, dI)) (ci := 1) (v := .int stl) (C := R_Liv) (T := T_Liv) (N := 2) hx hb ht i_Liv hown hK hP 0 rfl rfl 1 (by decide) (ht _ mw_53) (fun _ h9 => h9) rfl d_Liv_follow_1 ?_
  refine lv_if_ne (tgt := 8) hx hb d_Liv_follow_4 (by decide) (fun c_4 => ?_) (fun c_4 => ?_)
  · skip
    refine lv_aload_n hx hb d_Liv_follow_8 rfl (lv_at hl 0 rfl) ?_
    refine va_get (D := (dC, dI)) (ci := 1) (v := .ref lf) (C := R_Liv) (T := T_Liv) (N := 2) hx hb ht i_Liv hown hK hP 0 rfl rfl 0 (by decide) (ht _ mw_52) (fun _ h9 => h9) rfl d_Liv_follow_9 ?_
    refine lv_iconst (v := 0) hx hb d_Liv_follow_12 (by decide) ?_
    refine sm_gov (wc := [(lf, .inl (cI, 61, .inl ff))]) (wr := [(lv, .inr (1, [.ref lf, .int stl])), (r, .inr (0, [.ref rk, .ref ra, .ref rb, .ref rc, .int (nI n)])), (rk, .inl (cI, 60, .inl fk)), (ra, .inl (cI, 60, .inl fa)), (rb, .inl (cI, 60, .inl fb)), (rc, .inl (cI, 60, .inl fc))]) (va_runS (As := [.ref lf, .int ((0 : Int32))]) (rest := []) ⟨hx, hb, hml, hown, ht⟩ ((c_Arr_fill (l := l) (dC := dC) (dI := dI) (cI := cI) (cZ := cZ) (x := lf) (len := 61) (f := ff) (u := (0 : Int32)) (by first | assumption | omega)).at H.size) (sm_cS 2 ht mw_201 mw_7 mw_199 mw_200 rfl rfl (by decide +kernel) ⟨Nat.le_of_ble_eq_true rfl, Nat.le_of_ble_eq_true rfl⟩) (sm_preS hN hK hP hD [1] rfl rfl (by decide)) rfl rfl hl.1 rfl (lv_room (Nat.le_of_ble_eq_true rfl)) d_Liv_follow_13 ⟨Nat.zero_le _, Nat.zero_le _⟩) hP hD hS hA [1] [0, 2, 3, 4, 5, 6] rfl rfl (by decide) (by decide) (fun w_13 H locs q_13 hP hD hS => ?_)
    obtain rfl := q_13
    have hP : va_P (dC, dI) smC [(lv, .inr (1, [.ref lf, .int stl])), (r, .inr (0, [.ref rk, .ref ra, .ref rb, .ref rc, .int (nI n)])), (rk, .inl (cI, 60, .inl fk)), (ra, .inl (cI, 60, .inl fa)), (rb, .inl (cI, 60, .inl fb)), (rc, .inl (cI, 60, .inl fc)), (lf, .inl (cI, 61, .inl (fun _ => ((0 : Int32)))))] H := hP
    have hD : va_D A [(lv, .inr (1, [.ref lf, .int stl])), (r, .inr (0, [.ref rk, .ref ra, .ref rb, .ref rc, .int (nI n)])), (rk, .inl (cI, 60, .inl fk)), (ra, .inl (cI, 60, .inl fa)), (rb, .inl (cI, 60, .inl fb)), (rc, .inl (cI, 60, .inl fc)), (lf, .inl (cI, 61, .inl (fun _ => ((0 : Int32)))))] := hD
    refine lv_iconst (v := 1) hx hb d_Liv_follow_16 (by decide) ?_
    refine lv_istore_n (lv' := [(2, .int ((1 : Int32))), (0, .ref lv), (1, .ref r)]) hx hb d_Liv_follow_17 rfl hl (by decide) rfl (fun ls hl => ?_)
    refine lv_iconst (v := 0) hx hb d_Liv_follow_18 (by decide) ?_
    refine lv_istore_n (lv' := [(3, .int ((0 : Int32))), (2, .int ((1 : Int32))), (0, .ref lv), (1, .ref r)]) hx hb d_Liv_follow_19 rfl hl (by decide) rfl (fun ls hl => ?_)
    have loop_20 : ∀ (N_20 : Nat) (q : Nat) (i : Nat) (gg : Nat → Int32) (ch : Int32), (q + i = 61) → (flw n fk fa fb fc q gg ch = flw n fk fa fb fc 61 (fun _ => 0) 1) → q < N_20 → ∀ (H : Heap) (locs : List Loc), va_P (dC, dI) smC [(lv, .inr (1, [.ref lf, .int stl])), (lf, .inl (cI, 61, .inl gg)), (r, .inr (0, [.ref rk, .ref ra, .ref rb, .ref rc, .int (nI n)])), (rk, .inl (cI, 60, .inl fk)), (ra, .inl (cI, 60, .inl fa)), (rb, .inl (cI, 60, .inl fb)), (rc, .inl (cI, 60, .inl fc))] H → va_D A [(lv, .inr (1, [.ref lf, .int stl])), (lf, .inl (cI, 61, .inl gg)), (r, .inr (0, [.ref rk, .ref ra, .ref rb, .ref rc, .int (nI n)])), (rk, .inl (cI, 60, .inl fk)), (ra, .inl (cI, 60, .inl fa)), (rb, .inl (cI, 60, .inl fb)), (rc, .inl (cI, 60, .inl fc))] → va_S A s.heap H locs → ∀ ls : Array Slot, lv_has ls 4 [(0, .ref lv), (1, .ref r), (2, .int ch), (3, .int (nI i))] → W p l e (rmF 5 110) s m ([.ref lv, .ref r] : List Value).toArray below meth c H locs 0 0 (MQ below (va_Qv (fun w2 => (stl = 0 ∧ w2 = [(lv, .inr (1, [.ref lf, .int stl])), (lf, .inl (cI, 61, .inl ff)), (r, .inr (0, [.ref rk, .ref ra, .ref rb, .ref rc, .int (nI n)])), (rk, .inl (cI, 60, .inl fk)), (ra, .inl (cI, 60, .inl fa)), (rb, .inl (cI, 60, .inl fb)), (rc, .inl (cI, 60, .inl fc))]) ∨ (¬ stl = 0 ∧ w2 = [(lv, .inr (1, [.ref lf, .int ((0 : Int32))])), (lf, .inl (cI, 61, .inl (flw n fk fa fb fc 61 (fun _ => 0) 1))), (r, .inr (0, [.ref rk, .ref ra, .ref rb, .ref rc, .int (nI n)])), (rk, .inl (cI, 60, .inl fk)), (ra, .inl (cI, 60, .inl fa)), (rb, .inl (cI, 60, .inl fb)), (rc, .inl (cI, 60, .inl fc))])) (sm_B (dC, dI) smC [(cI, .int), (cZ, .boolean)] A) A) ([.ref lv, .ref r] : List Value).toArray s 0 0 A) (F0 m 20 ls []) := by
      intro N_20
      induction N_20 with
      | zero => intro q i gg ch _ _ z; exact absurd z (Nat.not_lt_zero _)
      | succ N_20 ih_20 =>
        intro q i gg ch hqi hv m_20 H locs hP hD hS ls hl
        refine lv_iload_n hx hb d_Liv_follow_20 rfl (lv_at hl 3 rfl) ?_
        refine lv_bipush (v := 60) hx hb d_Liv_follow_21 (by decide) ?_
        refine lv_icmp_gt (tgt := 42) hx hb d_Liv_follow_23 (by decide) (fun c_23 => ?_) (fun c_23 => ?_)
        · skip
          have f_23 : 60 < i := (nI_ltI (a := 60) (b := i) (by first | omega | decide) (by first | omega | decide)).mp c_23
          obtain rfl : q = 0 := by omega
          have hz : gg = flw n fk fa fb fc 61 (fun _ => 0) 1 := hv
          refine lv_aload_n hx hb d_Liv_follow_42 rfl (lv_at hl 0 rfl) ?_
          refine lv_iconst (v := 0) hx hb d_Liv_follow_43 (by decide) ?_
          refine va_put (D := (dC, dI)) (ci := 1) (v := .int ((0 : Int32))) (ty := .boolean) (C := R_Liv) (T := T_Liv) (N := 2) hx hb ht i_Liv t_Liv t_Liv_ok n_Liv hown hK hP hD hS 0 rfl rfl 1 (by decide) (ht _ mw_53) (fun _ h9 => h9) rfl (by decide +kernel) rfl rfl (Nat.le_of_ble_eq_true rfl) d_Liv_follow_44 (fun H locs hP hD hS => ?_)
          have hP : va_P (dC, dI) smC [(lv, .inr (1, [.ref lf, .int ((0 : Int32))])), (lf, .inl (cI, 61, .inl gg)), (r, .inr (0, [.ref rk, .ref ra, .ref rb, .ref rc, .int (nI n)])), (rk, .inl (cI, 60, .inl fk)), (ra, .inl (cI, 60, .inl fa)), (rb, .inl (cI, 60, .inl fb)), (rc, .inl (cI, 60, .inl fc))] H := hP
          have hD : va_D A [(lv, .inr (1, [.ref lf, .int ((0 : Int32))])), (lf, .inl (cI, 61, .inl gg)), (r, .inr (0, [.ref rk, .ref ra, .ref rb, .ref rc, .int (nI n)])), (rk, .inl (cI, 60, .inl fk)), (ra, .inl (cI, 60, .inl fa)), (rb, .inl (cI, 60, .inl fb)), (rc, .inl (cI, 60, .inl fc))] := hD
          refine sm_rv (ws := [(lv, .inr (1, [.ref lf, .int ((0 : Int32))])), (lf, .inl (cI, 61, .inl gg)), (r, .inr (0, [.ref rk, .ref ra, .ref rb, .ref rc, .int (nI n)])), (rk, .inl (cI, 60, .inl fk)), (ra, .inl (cI, 60, .inl fa)), (rb, .inl (cI, 60, .inl fb)), (rc, .inl (cI, 60, .inl fc))]) hx hb hr hlocks hK (hP.sub [0, 1, 2, 3, 4, 5, 6] rfl) (hD.sub [0, 1, 2, 3, 4, 5, 6] (by decide) rfl) hS ?_ d_Liv_follow_47
          exact Or.inr ⟨c_4, by rw [← hz]⟩
        · skip
          have f_23 : ¬ 60 < i := fun z => c_23 ((nI_ltI (a := 60) (b := i) (by first | omega | decide) (by first | omega | decide)).mpr z)
          obtain ⟨q1, rfl⟩ : ∃ z, q = z + 1 := ⟨q - 1, by omega⟩
          refine lv_iload_n hx hb d_Liv_follow_26 rfl (lv_at hl 2 rfl) ?_
          refine lv_if_eq (tgt := 42) hx hb d_Liv_follow_27 (by decide) (fun c_27 => ?_) (fun c_27 => ?_)
          · skip
            have hz : gg = flw n fk fa fb fc 61 (fun _ => 0) 1 := by rw [← hv, flw, if_pos c_27]
            refine lv_aload_n hx hb d_Liv_follow_42 rfl (lv_at hl 0 rfl) ?_
            refine lv_iconst (v := 0) hx hb d_Liv_follow_43 (by decide) ?_
            refine va_put (D := (dC, dI)) (ci := 1) (v := .int ((0 : Int32))) (ty := .boolean) (C := R_Liv) (T := T_Liv) (N := 2) hx hb ht i_Liv t_Liv t_Liv_ok n_Liv hown hK hP hD hS 0 rfl rfl 1 (by decide) (ht _ mw_53) (fun _ h9 => h9) rfl (by decide +kernel) rfl rfl (Nat.le_of_ble_eq_true rfl) d_Liv_follow_44 (fun H locs hP hD hS => ?_)
            have hP : va_P (dC, dI) smC [(lv, .inr (1, [.ref lf, .int ((0 : Int32))])), (lf, .inl (cI, 61, .inl gg)), (r, .inr (0, [.ref rk, .ref ra, .ref rb, .ref rc, .int (nI n)])), (rk, .inl (cI, 60, .inl fk)), (ra, .inl (cI, 60, .inl fa)), (rb, .inl (cI, 60, .inl fb)), (rc, .inl (cI, 60, .inl fc))] H := hP
            have hD : va_D A [(lv, .inr (1, [.ref lf, .int ((0 : Int32))])), (lf, .inl (cI, 61, .inl gg)), (r, .inr (0, [.ref rk, .ref ra, .ref rb, .ref rc, .int (nI n)])), (rk, .inl (cI, 60, .inl fk)), (ra, .inl (cI, 60, .inl fa)), (rb, .inl (cI, 60, .inl fb)), (rc, .inl (cI, 60, .inl fc))] := hD
            refine sm_rv (ws := [(lv, .inr (1, [.ref lf, .int ((0 : Int32))])), (lf, .inl (cI, 61, .inl gg)), (r, .inr (0, [.ref rk, .ref ra, .ref rb, .ref rc, .int (nI n)])), (rk, .inl (cI, 60, .inl fk)), (ra, .inl (cI, 60, .inl fa)), (rb, .inl (cI, 60, .inl fb)), (rc, .inl (cI, 60, .inl fc))]) hx hb hr hlocks hK (hP.sub [0, 1, 2, 3, 4, 5, 6] rfl) (hD.sub [0, 1, 2, 3, 4, 5, 6] (by decide) rfl) hS ?_ d_Liv_follow_47
            exact Or.inr ⟨c_4, by rw [← hz]⟩
          · skip
            refine lv_aload_n hx hb d_Liv_follow_30 rfl (lv_at hl 0 rfl) ?_
            refine lv_aload_n hx hb d_Liv_follow_31 rfl (lv_at hl 1 rfl) ?_
            refine sm_goi (wc := [(lv, .inr (1, [.ref lf, .int stl])), (lf, .inl (cI, 61, .inl gg)), (r, .inr (0, [.ref rk, .ref ra, .ref rb, .ref rc, .int (nI n)])), (rk, .inl (cI, 60, .inl fk)), (ra, .inl (cI, 60, .inl fa)), (rb, .inl (cI, 60, .inl fb)), (rc, .inl (cI, 60, .inl fc))]) (wr := []) (va_runV (As := [.ref r]) (rest := []) ⟨hx, hb, hml, hown, ht⟩ ((c_Liv_sweep (l := l) (dC := dC) (dI := dI) (cI := cI) (cZ := cZ) (lv := lv) (lf := lf) (ff := gg) (stl := stl) (r := r) (rk := rk) (ra := ra) (rb := rb) (rc := rc) (n := n) (fk := fk) (fa := fa) (fb := fb) (fc := fc) (by first | assumption | omega)).at H.size) (sm_cV 1 ht mw_205 mw_3 mw_202 mw_204 mp_1 rfl rfl (by decide +kernel) ⟨Nat.le_of_ble_eq_true rfl, Nat.le_of_ble_eq_true rfl⟩) (sm_preV (ci := 1) hN hK hP hD [0, 1, 2, 3, 4, 5, 6] rfl rfl (by decide) 0 rfl rfl) rfl rfl hl.1 rfl (lv_room (Nat.le_of_ble_eq_true rfl)) d_Liv_follow_32 ⟨Nat.zero_le _, Nat.zero_le _⟩) hP hD hS hA [0, 1, 2, 3, 4, 5, 6] [] rfl rfl (by decide) (by decide) (fun r_32 w_32 H locs q_32 hP hD hS => ?_)
            obtain ⟨rfl, rfl⟩ := q_32
            have hP : va_P (dC, dI) smC [(lv, .inr (1, [.ref lf, .int stl])), (lf, .inl (cI, 61, .inl ((swp n fk fa fb fc n gg 0).1))), (r, .inr (0, [.ref rk, .ref ra, .ref rb, .ref rc, .int (nI n)])), (rk, .inl (cI, 60, .inl fk)), (ra, .inl (cI, 60, .inl fa)), (rb, .inl (cI, 60, .inl fb)), (rc, .inl (cI, 60, .inl fc))] H := hP
            have hD : va_D A [(lv, .inr (1, [.ref lf, .int stl])), (lf, .inl (cI, 61, .inl ((swp n fk fa fb fc n gg 0).1))), (r, .inr (0, [.ref rk, .ref ra, .ref rb, .ref rc, .int (nI n)])), (rk, .inl (cI, 60, .inl fk)), (ra, .inl (cI, 60, .inl fa)), (rb, .inl (cI, 60, .inl fb)), (rc, .inl (cI, 60, .inl fc))] := hD
            refine lv_istore_n (lv' := [(2, .int ((swp n fk fa fb fc n gg 0).2)), (0, .ref lv), (1, .ref r), (3, .int (nI i))]) hx hb d_Liv_follow_35 rfl hl (by decide) rfl (fun ls hl => ?_)
            refine lv_iinc (v := nI (i + 1)) (lv' := [(3, .int (nI (i + 1))), (2, .int ((swp n fk fa fb fc n gg 0).2)), (0, .ref lv), (1, .ref r)]) hx hb d_Liv_follow_36 hl (k := 3) rfl (nI_add i 1) (by decide) rfl (fun ls hl => ?_)
            refine lv_goto (tgt := 20) hx hb d_Liv_follow_39 (by decide) ?_
            exact ih_20 q1 (i + 1) ((swp n fk fa fb fc n gg 0).1) ((swp n fk fa fb fc n gg 0).2) (by omega) (by rw [← hv, flw, if_neg c_27]) (by omega) _ _ (hP.sub [0, 1, 2, 3, 4, 5, 6] rfl) (hD.sub [0, 1, 2, 3, 4, 5, 6] (by decide) rfl) hS _ (lv_sub hl [2, 3, 1, 0] rfl)
    exact loop_20 62 61 0 (fun _ => ((0 : Int32))) ((1 : Int32)) rfl rfl (by decide) _ _ (hP.sub [0, 6, 1, 2, 3, 4, 5] rfl) (hD.sub [0, 6, 1, 2, 3, 4, 5] (by decide) rfl) hS _ (lv_sub hl [2, 3, 1, 0] rfl)
  · skip
    refine sm_rv (ws := [(lv, .inr (1, [.ref lf, .int stl])), (lf, .inl (cI, 61, .inl ff)), (r, .inr (0, [.ref rk, .ref ra, .ref rb, .ref rc, .int (nI n)])), (rk, .inl (cI, 60, .inl fk)), (ra, .inl (cI, 60, .inl fa)), (rb, .inl (cI, 60, .inl fb)), (rc, .inl (cI, 60, .inl fc))]) hx hb hr hlocks hK (hP.sub [0, 1, 2, 3, 4, 5, 6] rfl) (hD.sub [0, 1, 2, 3, 4, 5, 6] (by decide) rfl) hS ?_ d_Liv_follow_7
    exact Or.inl ⟨c_4, rfl⟩
end
section
abbrev y_Plc_are : MethodName := ⟨"ScanMill$Places", "are", "(I)Z"⟩
theorem d_Plc_are_0 : decode prog_4_method_3_code 0 = .ok (.iload_n 1, 1) := by decide +kernel
theorem d_Plc_are_1 : decode prog_4_method_3_code 1 = .ok (.invokestatic 68, 3) := by decide +kernel
theorem d_Plc_are_4 : decode prog_4_method_3_code 4 = .ok (.ifCond .eq 18, 3) := by decide +kernel
theorem d_Plc_are_22 : decode prog_4_method_3_code 22 = .ok (.iconst 0, 1) := by decide +kernel
theorem d_Plc_are_23 : decode prog_4_method_3_code 23 = .ok (.ireturn, 1) := by decide +kernel
theorem d_Plc_are_7 : decode prog_4_method_3_code 7 = .ok (.aload_n 0, 1) := by decide +kernel
theorem d_Plc_are_8 : decode prog_4_method_3_code 8 = .ok (.getfield 15, 3) := by decide +kernel
theorem mw_66 : Cond.fieldLink "ScanMill$Places" 15 "ScanMill$Places" "lasts" "[I" ∈ wG := wG_t 66 (by decide +kernel) (by decide +kernel)
theorem d_Plc_are_11 : decode prog_4_method_3_code 11 = .ok (.iload_n 1, 1) := by decide +kernel
theorem d_Plc_are_12 : decode prog_4_method_3_code 12 = .ok (.iaload, 1) := by decide +kernel
theorem d_Plc_are_13 : decode prog_4_method_3_code 13 = .ok (.bipush (-2), 2) := by decide +kernel
theorem d_Plc_are_15 : decode prog_4_method_3_code 15 = .ok (.if_icmp .eq 7, 3) := by decide +kernel
theorem d_Plc_are_18 : decode prog_4_method_3_code 18 = .ok (.iconst 1, 1) := by decide +kernel
theorem d_Plc_are_19 : decode prog_4_method_3_code 19 = .ok (.goto 4, 3) := by decide +kernel
set_option maxRecDepth 100000 in
set_option maxHeartbeats 4000000 in
theorem c_Plc_are {l : Launch} {dC : Nat → ClassId} {dI : Nat → Nat → Nat} {cI cZ : ClassId} {pl pf pa po pr ps pd ph pq wo wr : Nat} {fi la ov rg sl od rh sh : Nat → Int32} {sc : Int32} {v : Int32}  : sm_I l y_Plc_are prog_4_method_3_code 2 (some .boolean) (rmF 1 20) (dC, dI) smC [(cI, .int), (cZ, .boolean)] [.ref pl, .int v] [(pl, .inr (2, [.ref pf, .ref pa, .ref po, .ref pr, .ref ps, .ref pd, .ref ph, .ref pq, .int (nI wo), .int (nI wr), .int sc])), (pf, .inl (cI, 24, .inl fi)), (pa, .inl (cI, 24, .inl la)), (po, .inl (cZ, 24, .inl ov)), (pr, .inl (cI, 24, .inl rg)), (ps, .inl (cI, 24, .inl sl)), (pd, .inl (cI, 24, .inl od)), (ph, .inl (cI, 8, .inl rh)), (pq, .inl (cI, 24, .inl sh))] (fun q w2 => q = (b2i (arB la v)) ∧ w2 = [(pl, .inr (2, [.ref pf, .ref pa, .ref po, .ref pr, .ref ps, .ref pd, .ref ph, .ref pq, .int (nI wo), .int (nI wr), .int sc])), (pf, .inl (cI, 24, .inl fi)), (pa, .inl (cI, 24, .inl la)), (po, .inl (cZ, 24, .inl ov)), (pr, .inl (cI, 24, .inl rg)), (ps, .inl (cI, 24, .inl sl)), (pd, .inl (cI, 24, .inl od)), (ph, .inl (cI, 8, .inl rh)), (pq, .inl (cI, 24, .inl sh))]) := by
  refine sm_I.mk (by decide) (Nat.le_of_ble_eq_true rfl) ?_
  intro p e s m below meth c A H locs ls hx hb hr ht hown hlocks hml hnm hP hK hD hA hS hN hl
  have hl : lv_has ls 2 [(0, .ref pl), (1, .int v)] := hl
  refine lv_iload_n hx hb d_Plc_are_0 rfl (lv_at hl 1 rfl) ?_
  refine sm_goi (wc := []) (wr := [(pl, .inr (2, [.ref pf, .ref pa, .ref po, .ref pr, .ref ps, .ref pd, .ref ph, .ref pq, .int (nI wo), .int (nI wr), .int sc])), (pf, .inl (cI, 24, .inl fi)), (pa, .inl (cI, 24, .inl la)), (po, .inl (cZ, 24, .inl ov)), (pr, .inl (cI, 24, .inl rg)), (ps, .inl (cI, 24, .inl sl)), (pd, .inl (cI, 24, .inl od)), (ph, .inl (cI, 8, .inl rh)), (pq, .inl (cI, 24, .inl sh))]) (va_runSN (As := [.int v]) (rest := []) ⟨hx, hb, hml, hown, ht⟩ ((c_Mill_isValue (l := l) (dC := dC) (dI := dI) (cI := cI) (cZ := cZ) (v := v) ).at H.size) (sm_cN 1 ht mw_163 mw_1 hN.2.2.2 mw_162 rfl rfl (by decide +kernel) ⟨Nat.le_of_ble_eq_true rfl, Nat.le_of_ble_eq_true rfl⟩) (sm_preS hN hK hP hD [] rfl rfl (by decide)) rfl rfl hl.1 rfl (lv_room (Nat.le_of_ble_eq_true rfl)) d_Plc_are_1 ⟨Nat.zero_le _, Nat.zero_le _⟩) hP hD hS hA [] [0, 1, 2, 3, 4, 5, 6, 7, 8] rfl rfl (by decide) (by decide) (fun r_1 w_1 H locs q_1 hP hD hS => ?_)
  obtain ⟨rfl, rfl⟩ := q_1
  have hP : va_P (dC, dI) smC [(pl, .inr (2, [.ref pf, .ref pa, .ref po, .ref pr, .ref ps, .ref pd, .ref ph, .ref pq, .int (nI wo), .int (nI wr), .int sc])), (pf, .inl (cI, 24, .inl fi)), (pa, .inl (cI, 24, .inl la)), (po, .inl (cZ, 24, .inl ov)), (pr, .inl (cI, 24, .inl rg)), (ps, .inl (cI, 24, .inl sl)), (pd, .inl (cI, 24, .inl od)), (ph, .inl (cI, 8, .inl rh)), (pq, .inl (cI, 24, .inl sh))] H := hP
  have hD : va_D A [(pl, .inr (2, [.ref pf, .ref pa, .ref po, .ref pr, .ref ps, .ref pd, .ref ph, .ref pq, .int (nI wo), .int (nI wr), .int sc])), (pf, .inl (cI, 24, .inl fi)), (pa, .inl (cI, 24, .inl la)), (po, .inl (cZ, 24, .inl ov)), (pr, .inl (cI, 24, .inl rg)), (ps, .inl (cI, 24, .inl sl)), (pd, .inl (cI, 24, .inl od)), (ph, .inl (cI, 8, .inl rh)), (pq, .inl (cI, 24, .inl sh))] := hD
  refine lv_if_eq (tgt := 22) hx hb d_Plc_are_4 (by decide) (fun c_4 => ?_) (fun c_4 => ?_)
  · skip
    have e_4 : (inB v 24) = false := b2i_eq0 c_4
    refine lv_iconst (v := 0) hx hb d_Plc_are_22 (by decide) ?_
    refine sm_rz (v := (0 : Int32)) (ws := [(pl, .inr (2, [.ref pf, .ref pa, .ref po, .ref pr, .ref ps, .ref pd, .ref ph, .ref pq, .int (nI wo), .int (nI wr), .int sc])), (pf, .inl (cI, 24, .inl fi)), (pa, .inl (cI, 24, .inl la)), (po, .inl (cZ, 24, .inl ov)), (pr, .inl (cI, 24, .inl rg)), (ps, .inl (cI, 24, .inl sl)), (pd, .inl (cI, 24, .inl od)), (ph, .inl (cI, 8, .inl rh)), (pq, .inl (cI, 24, .inl sh))]) hx hb hr hlocks hK (hP.sub [0, 1, 2, 3, 4, 5, 6, 7, 8] rfl) (hD.sub [0, 1, 2, 3, 4, 5, 6, 7, 8] (by decide) rfl) hS (by decide) ?_ d_Plc_are_23
    exact ⟨by simp [arB, b2i, e_4], rfl⟩
  · skip
    have e_4 : (inB v 24) = true := b2i_ne0 c_4
    refine lv_aload_n hx hb d_Plc_are_7 rfl (lv_at hl 0 rfl) ?_
    refine va_get (D := (dC, dI)) (ci := 2) (v := .ref pa) (C := R_Plc) (T := T_Plc) (N := 11) hx hb ht i_Plc hown hK hP 0 rfl rfl 1 (by decide) (ht _ mw_66) (fun _ h9 => h9) rfl d_Plc_are_8 ?_
    refine lv_iload_n hx hb d_Plc_are_11 rfl (lv_at hl 1 rfl) ?_
    refine sm_iald (j := v.toNatClampNeg) hx hb hK hP 2 0 rfl rfl (sm_inB e_4) rfl d_Plc_are_12 ?_
    refine lv_bipush (v := -2) hx hb d_Plc_are_13 (by decide) ?_
    refine lv_icmp_eq (tgt := 22) hx hb d_Plc_are_15 (by decide) (fun c_15 => ?_) (fun c_15 => ?_)
    · skip
      refine lv_iconst (v := 0) hx hb d_Plc_are_22 (by decide) ?_
      refine sm_rz (v := (0 : Int32)) (ws := [(pl, .inr (2, [.ref pf, .ref pa, .ref po, .ref pr, .ref ps, .ref pd, .ref ph, .ref pq, .int (nI wo), .int (nI wr), .int sc])), (pf, .inl (cI, 24, .inl fi)), (pa, .inl (cI, 24, .inl la)), (po, .inl (cZ, 24, .inl ov)), (pr, .inl (cI, 24, .inl rg)), (ps, .inl (cI, 24, .inl sl)), (pd, .inl (cI, 24, .inl od)), (ph, .inl (cI, 8, .inl rh)), (pq, .inl (cI, 24, .inl sh))]) hx hb hr hlocks hK (hP.sub [0, 1, 2, 3, 4, 5, 6, 7, 8] rfl) (hD.sub [0, 1, 2, 3, 4, 5, 6, 7, 8] (by decide) rfl) hS (by decide) ?_ d_Plc_are_23
      exact ⟨by simp [arB, b2i, e_4, c_15], rfl⟩
    · skip
      refine lv_iconst (v := 1) hx hb d_Plc_are_18 (by decide) ?_
      refine lv_goto (tgt := 23) hx hb d_Plc_are_19 (by decide) ?_
      refine sm_rz (v := (1 : Int32)) (ws := [(pl, .inr (2, [.ref pf, .ref pa, .ref po, .ref pr, .ref ps, .ref pd, .ref ph, .ref pq, .int (nI wo), .int (nI wr), .int sc])), (pf, .inl (cI, 24, .inl fi)), (pa, .inl (cI, 24, .inl la)), (po, .inl (cZ, 24, .inl ov)), (pr, .inl (cI, 24, .inl rg)), (ps, .inl (cI, 24, .inl sl)), (pd, .inl (cI, 24, .inl od)), (ph, .inl (cI, 8, .inl rh)), (pq, .inl (cI, 24, .inl sh))]) hx hb hr hlocks hK (hP.sub [0, 1, 2, 3, 4, 5, 6, 7, 8] rfl) (hD.sub [0, 1, 2, 3, 4, 5, 6, 7, 8] (by decide) rfl) hS (by decide) ?_ d_Plc_are_23
      exact ⟨by simp [arB, b2i, e_4, c_15], rfl⟩
abbrev y_Plc_firstOf : MethodName := ⟨"ScanMill$Places", "firstOf", "(I)I"⟩
theorem d_Plc_firstOf_0 : decode prog_4_method_4_code 0 = .ok (.iload_n 1, 1) := by decide +kernel
theorem d_Plc_firstOf_1 : decode prog_4_method_4_code 1 = .ok (.invokestatic 68, 3) := by decide +kernel
theorem d_Plc_firstOf_4 : decode prog_4_method_4_code 4 = .ok (.ifCond .eq 12, 3) := by decide +kernel
theorem d_Plc_firstOf_16 : decode prog_4_method_4_code 16 = .ok (.bipush (-2), 2) := by decide +kernel
theorem d_Plc_firstOf_18 : decode prog_4_method_4_code 18 = .ok (.ireturn, 1) := by decide +kernel
theorem d_Plc_firstOf_7 : decode prog_4_method_4_code 7 = .ok (.aload_n 0, 1) := by decide +kernel
theorem d_Plc_firstOf_8 : decode prog_4_method_4_code 8 = .ok (.getfield 9, 3) := by decide +kernel
theorem mw_65 : Cond.fieldLink "ScanMill$Places" 9 "ScanMill$Places" "firsts" "[I" ∈ wG := wG_t 65 (by decide +kernel) (by decide +kernel)
theorem d_Plc_firstOf_11 : decode prog_4_method_4_code 11 = .ok (.iload_n 1, 1) := by decide +kernel
theorem d_Plc_firstOf_12 : decode prog_4_method_4_code 12 = .ok (.iaload, 1) := by decide +kernel
theorem d_Plc_firstOf_13 : decode prog_4_method_4_code 13 = .ok (.goto 5, 3) := by decide +kernel
set_option maxRecDepth 100000 in
set_option maxHeartbeats 4000000 in
theorem c_Plc_firstOf {l : Launch} {dC : Nat → ClassId} {dI : Nat → Nat → Nat} {cI cZ : ClassId} {pl pf pa po pr ps pd ph pq wo wr : Nat} {fi la ov rg sl od rh sh : Nat → Int32} {sc : Int32} {v : Int32}  : sm_I l y_Plc_firstOf prog_4_method_4_code 2 (some .int) (rmF 1 20) (dC, dI) smC [(cI, .int), (cZ, .boolean)] [.ref pl, .int v] [(pl, .inr (2, [.ref pf, .ref pa, .ref po, .ref pr, .ref ps, .ref pd, .ref ph, .ref pq, .int (nI wo), .int (nI wr), .int sc])), (pf, .inl (cI, 24, .inl fi)), (pa, .inl (cI, 24, .inl la)), (po, .inl (cZ, 24, .inl ov)), (pr, .inl (cI, 24, .inl rg)), (ps, .inl (cI, 24, .inl sl)), (pd, .inl (cI, 24, .inl od)), (ph, .inl (cI, 8, .inl rh)), (pq, .inl (cI, 24, .inl sh))] (fun q w2 => q = (fO fi v) ∧ w2 = [(pl, .inr (2, [.ref pf, .ref pa, .ref po, .ref pr, .ref ps, .ref pd, .ref ph, .ref pq, .int (nI wo), .int (nI wr), .int sc])), (pf, .inl (cI, 24, .inl fi)), (pa, .inl (cI, 24, .inl la)), (po, .inl (cZ, 24, .inl ov)), (pr, .inl (cI, 24, .inl rg)), (ps, .inl (cI, 24, .inl sl)), (pd, .inl (cI, 24, .inl od)), (ph, .inl (cI, 8, .inl rh)), (pq, .inl (cI, 24, .inl sh))]) := by
  refine sm_I.mk (by decide) (Nat.le_of_ble_eq_true rfl) ?_
  intro p e s m below meth c A H locs ls hx hb hr ht hown hlocks hml hnm hP hK hD hA hS hN hl
  have hl : lv_has ls 2 [(0, .ref pl), (1, .int v)] := hl
  refine lv_iload_n hx hb d_Plc_firstOf_0 rfl (lv_at hl 1 rfl) ?_
  refine sm_goi (wc := []) (wr := [(pl, .inr (2, [.ref pf, .ref pa, .ref po, .ref pr, .ref ps, .ref pd, .ref ph, .ref pq, .int (nI wo), .int (nI wr), .int sc])), (pf, .inl (cI, 24, .inl fi)), (pa, .inl (cI, 24, .inl la)), (po, .inl (cZ, 24, .inl ov)), (pr, .inl (cI, 24, .inl rg)), (ps, .inl (cI, 24, .inl sl)), (pd, .inl (cI, 24, .inl od)), (ph, .inl (cI, 8, .inl rh)), (pq, .inl (cI, 24, .inl sh))]) (va_runSN (As := [.int v]) (rest := []) ⟨hx, hb, hml, hown, ht⟩ ((c_Mill_isValue (l := l) (dC := dC) (dI := dI) (cI := cI) (cZ := cZ) (v := v) ).at H.size) (sm_cN 1 ht mw_163 mw_1 hN.2.2.2 mw_162 rfl rfl (by decide +kernel) ⟨Nat.le_of_ble_eq_true rfl, Nat.le_of_ble_eq_true rfl⟩) (sm_preS hN hK hP hD [] rfl rfl (by decide)) rfl rfl hl.1 rfl (lv_room (Nat.le_of_ble_eq_true rfl)) d_Plc_firstOf_1 ⟨Nat.zero_le _, Nat.zero_le _⟩) hP hD hS hA [] [0, 1, 2, 3, 4, 5, 6, 7, 8] rfl rfl (by decide) (by decide) (fun r_1 w_1 H locs q_1 hP hD hS => ?_)
  obtain ⟨rfl, rfl⟩ := q_1
  have hP : va_P (dC, dI) smC [(pl, .inr (2, [.ref pf, .ref pa, .ref po, .ref pr, .ref ps, .ref pd, .ref ph, .ref pq, .int (nI wo), .int (nI wr), .int sc])), (pf, .inl (cI, 24, .inl fi)), (pa, .inl (cI, 24, .inl la)), (po, .inl (cZ, 24, .inl ov)), (pr, .inl (cI, 24, .inl rg)), (ps, .inl (cI, 24, .inl sl)), (pd, .inl (cI, 24, .inl od)), (ph, .inl (cI, 8, .inl rh)), (pq, .inl (cI, 24, .inl sh))] H := hP
  have hD : va_D A [(pl, .inr (2, [.ref pf, .ref pa, .ref po, .ref pr, .ref ps, .ref pd, .ref ph, .ref pq, .int (nI wo), .int (nI wr), .int sc])), (pf, .inl (cI, 24, .inl fi)), (pa, .inl (cI, 24, .inl la)), (po, .inl (cZ, 24, .inl ov)), (pr, .inl (cI, 24, .inl rg)), (ps, .inl (cI, 24, .inl sl)), (pd, .inl (cI, 24, .inl od)), (ph, .inl (cI, 8, .inl rh)), (pq, .inl (cI, 24, .inl sh))] := hD
  refine lv_if_eq (tgt := 16) hx hb d_Plc_firstOf_4 (by decide) (fun c_4 => ?_) (fun c_4 => ?_)
  · skip
    have e_4 : (inB v 24) = false := b2i_eq0 c_4
    refine lv_bipush (v := -2) hx hb d_Plc_firstOf_16 (by decide) ?_
    refine sm_ri (v := (-2 : Int32)) (ws := [(pl, .inr (2, [.ref pf, .ref pa, .ref po, .ref pr, .ref ps, .ref pd, .ref ph, .ref pq, .int (nI wo), .int (nI wr), .int sc])), (pf, .inl (cI, 24, .inl fi)), (pa, .inl (cI, 24, .inl la)), (po, .inl (cZ, 24, .inl ov)), (pr, .inl (cI, 24, .inl rg)), (ps, .inl (cI, 24, .inl sl)), (pd, .inl (cI, 24, .inl od)), (ph, .inl (cI, 8, .inl rh)), (pq, .inl (cI, 24, .inl sh))]) hx hb hr hlocks hK (hP.sub [0, 1, 2, 3, 4, 5, 6, 7, 8] rfl) (hD.sub [0, 1, 2, 3, 4, 5, 6, 7, 8] (by decide) rfl) hS ?_ d_Plc_firstOf_18
    exact ⟨by simp [fO, e_4], rfl⟩
  · skip
    have e_4 : (inB v 24) = true := b2i_ne0 c_4
    refine lv_aload_n hx hb d_Plc_firstOf_7 rfl (lv_at hl 0 rfl) ?_
    refine va_get (D := (dC, dI)) (ci := 2) (v := .ref pf) (C := R_Plc) (T := T_Plc) (N := 11) hx hb ht i_Plc hown hK hP 0 rfl rfl 0 (by decide) (ht _ mw_65) (fun _ h9 => h9) rfl d_Plc_firstOf_8 ?_
    refine lv_iload_n hx hb d_Plc_firstOf_11 rfl (lv_at hl 1 rfl) ?_
    refine sm_iald (j := v.toNatClampNeg) hx hb hK hP 1 0 rfl rfl (sm_inB e_4) rfl d_Plc_firstOf_12 ?_
    refine lv_goto (tgt := 18) hx hb d_Plc_firstOf_13 (by decide) ?_
    refine sm_ri (v := fi v.toNatClampNeg) (ws := [(pl, .inr (2, [.ref pf, .ref pa, .ref po, .ref pr, .ref ps, .ref pd, .ref ph, .ref pq, .int (nI wo), .int (nI wr), .int sc])), (pf, .inl (cI, 24, .inl fi)), (pa, .inl (cI, 24, .inl la)), (po, .inl (cZ, 24, .inl ov)), (pr, .inl (cI, 24, .inl rg)), (ps, .inl (cI, 24, .inl sl)), (pd, .inl (cI, 24, .inl od)), (ph, .inl (cI, 8, .inl rh)), (pq, .inl (cI, 24, .inl sh))]) hx hb hr hlocks hK (hP.sub [0, 1, 2, 3, 4, 5, 6, 7, 8] rfl) (hD.sub [0, 1, 2, 3, 4, 5, 6, 7, 8] (by decide) rfl) hS ?_ d_Plc_firstOf_18
    exact ⟨by simp [fO, e_4], rfl⟩
abbrev y_Plc_lastOf : MethodName := ⟨"ScanMill$Places", "lastOf", "(I)I"⟩
theorem d_Plc_lastOf_0 : decode prog_4_method_5_code 0 = .ok (.iload_n 1, 1) := by decide +kernel
theorem d_Plc_lastOf_1 : decode prog_4_method_5_code 1 = .ok (.invokestatic 68, 3) := by decide +kernel
theorem d_Plc_lastOf_4 : decode prog_4_method_5_code 4 = .ok (.ifCond .eq 12, 3) := by decide +kernel
theorem d_Plc_lastOf_16 : decode prog_4_method_5_code 16 = .ok (.bipush (-2), 2) := by decide +kernel
theorem d_Plc_lastOf_18 : decode prog_4_method_5_code 18 = .ok (.ireturn, 1) := by decide +kernel
theorem d_Plc_lastOf_7 : decode prog_4_method_5_code 7 = .ok (.aload_n 0, 1) := by decide +kernel
theorem d_Plc_lastOf_8 : decode prog_4_method_5_code 8 = .ok (.getfield 15, 3) := by decide +kernel
theorem d_Plc_lastOf_11 : decode prog_4_method_5_code 11 = .ok (.iload_n 1, 1) := by decide +kernel
theorem d_Plc_lastOf_12 : decode prog_4_method_5_code 12 = .ok (.iaload, 1) := by decide +kernel
theorem d_Plc_lastOf_13 : decode prog_4_method_5_code 13 = .ok (.goto 5, 3) := by decide +kernel
set_option maxRecDepth 100000 in
set_option maxHeartbeats 4000000 in
theorem c_Plc_lastOf {l : Launch} {dC : Nat → ClassId} {dI : Nat → Nat → Nat} {cI cZ : ClassId} {pl pf pa po pr ps pd ph pq wo wr : Nat} {fi la ov rg sl od rh sh : Nat → Int32} {sc : Int32} {v : Int32}  : sm_I l y_Plc_lastOf prog_4_method_5_code 2 (some .int) (rmF 1 20) (dC, dI) smC [(cI, .int), (cZ, .boolean)] [.ref pl, .int v] [(pl, .inr (2, [.ref pf, .ref pa, .ref po, .ref pr, .ref ps, .ref pd, .ref ph, .ref pq, .int (nI wo), .int (nI wr), .int sc])), (pf, .inl (cI, 24, .inl fi)), (pa, .inl (cI, 24, .inl la)), (po, .inl (cZ, 24, .inl ov)), (pr, .inl (cI, 24, .inl rg)), (ps, .inl (cI, 24, .inl sl)), (pd, .inl (cI, 24, .inl od)), (ph, .inl (cI, 8, .inl rh)), (pq, .inl (cI, 24, .inl sh))] (fun q w2 => q = (fO la v) ∧ w2 = [(pl, .inr (2, [.ref pf, .ref pa, .ref po, .ref pr, .ref ps, .ref pd, .ref ph, .ref pq, .int (nI wo), .int (nI wr), .int sc])), (pf, .inl (cI, 24, .inl fi)), (pa, .inl (cI, 24, .inl la)), (po, .inl (cZ, 24, .inl ov)), (pr, .inl (cI, 24, .inl rg)), (ps, .inl (cI, 24, .inl sl)), (pd, .inl (cI, 24, .inl od)), (ph, .inl (cI, 8, .inl rh)), (pq, .inl (cI, 24, .inl sh))]) := by
  refine sm_I.mk (by decide) (Nat.le_of_ble_eq_true rfl) ?_
  intro p e s m below meth c A H locs ls hx hb hr ht hown hlocks hml hnm hP hK hD hA hS hN hl
  have hl : lv_has ls 2 [(0, .ref pl), (1, .int v)] := hl
  refine lv_iload_n hx hb d_Plc_lastOf_0 rfl (lv_at hl 1 rfl) ?_
  refine sm_goi (wc := []) (wr := [(pl, .inr (2, [.ref pf, .ref pa, .ref po, .ref pr, .ref ps, .ref pd, .ref ph, .ref pq, .int (nI wo), .int (nI wr), .int sc])), (pf, .inl (cI, 24, .inl fi)), (pa, .inl (cI, 24, .inl la)), (po, .inl (cZ, 24, .inl ov)), (pr, .inl (cI, 24, .inl rg)), (ps, .inl (cI, 24, .inl sl)), (pd, .inl (cI, 24, .inl od)), (ph, .inl (cI, 8, .inl rh)), (pq, .inl (cI, 24, .inl sh))]) (va_runSN (As := [.int v]) (rest := []) ⟨hx, hb, hml, hown, ht⟩ ((c_Mill_isValue (l := l) (dC := dC) (dI := dI) (cI := cI) (cZ := cZ) (v := v) ).at H.size) (sm_cN 1 ht mw_163 mw_1 hN.2.2.2 mw_162 rfl rfl (by decide +kernel) ⟨Nat.le_of_ble_eq_true rfl, Nat.le_of_ble_eq_true rfl⟩) (sm_preS hN hK hP hD [] rfl rfl (by decide)) rfl rfl hl.1 rfl (lv_room (Nat.le_of_ble_eq_true rfl)) d_Plc_lastOf_1 ⟨Nat.zero_le _, Nat.zero_le _⟩) hP hD hS hA [] [0, 1, 2, 3, 4, 5, 6, 7, 8] rfl rfl (by decide) (by decide) (fun r_1 w_1 H locs q_1 hP hD hS => ?_)
  obtain ⟨rfl, rfl⟩ := q_1
  have hP : va_P (dC, dI) smC [(pl, .inr (2, [.ref pf, .ref pa, .ref po, .ref pr, .ref ps, .ref pd, .ref ph, .ref pq, .int (nI wo), .int (nI wr), .int sc])), (pf, .inl (cI, 24, .inl fi)), (pa, .inl (cI, 24, .inl la)), (po, .inl (cZ, 24, .inl ov)), (pr, .inl (cI, 24, .inl rg)), (ps, .inl (cI, 24, .inl sl)), (pd, .inl (cI, 24, .inl od)), (ph, .inl (cI, 8, .inl rh)), (pq, .inl (cI, 24, .inl sh))] H := hP
  have hD : va_D A [(pl, .inr (2, [.ref pf, .ref pa, .ref po, .ref pr, .ref ps, .ref pd, .ref ph, .ref pq, .int (nI wo), .int (nI wr), .int sc])), (pf, .inl (cI, 24, .inl fi)), (pa, .inl (cI, 24, .inl la)), (po, .inl (cZ, 24, .inl ov)), (pr, .inl (cI, 24, .inl rg)), (ps, .inl (cI, 24, .inl sl)), (pd, .inl (cI, 24, .inl od)), (ph, .inl (cI, 8, .inl rh)), (pq, .inl (cI, 24, .inl sh))] := hD
  refine lv_if_eq (tgt := 16) hx hb d_Plc_lastOf_4 (by decide) (fun c_4 => ?_) (fun c_4 => ?_)
  · skip
    have e_4 : (inB v 24) = false := b2i_eq0 c_4
    refine lv_bipush (v := -2) hx hb d_Plc_lastOf_16 (by decide) ?_
    refine sm_ri (v := (-2 : Int32)) (ws := [(pl, .inr (2, [.ref pf, .ref pa, .ref po, .ref pr, .ref ps, .ref pd, .ref ph, .ref pq, .int (nI wo), .int (nI wr), .int sc])), (pf, .inl (cI, 24, .inl fi)), (pa, .inl (cI, 24, .inl la)), (po, .inl (cZ, 24, .inl ov)), (pr, .inl (cI, 24, .inl rg)), (ps, .inl (cI, 24, .inl sl)), (pd, .inl (cI, 24, .inl od)), (ph, .inl (cI, 8, .inl rh)), (pq, .inl (cI, 24, .inl sh))]) hx hb hr hlocks hK (hP.sub [0, 1, 2, 3, 4, 5, 6, 7, 8] rfl) (hD.sub [0, 1, 2, 3, 4, 5, 6, 7, 8] (by decide) rfl) hS ?_ d_Plc_lastOf_18
    exact ⟨by simp [fO, e_4], rfl⟩
  · skip
    have e_4 : (inB v 24) = true := b2i_ne0 c_4
    refine lv_aload_n hx hb d_Plc_lastOf_7 rfl (lv_at hl 0 rfl) ?_
    refine va_get (D := (dC, dI)) (ci := 2) (v := .ref pa) (C := R_Plc) (T := T_Plc) (N := 11) hx hb ht i_Plc hown hK hP 0 rfl rfl 1 (by decide) (ht _ mw_66) (fun _ h9 => h9) rfl d_Plc_lastOf_8 ?_
    refine lv_iload_n hx hb d_Plc_lastOf_11 rfl (lv_at hl 1 rfl) ?_
    refine sm_iald (j := v.toNatClampNeg) hx hb hK hP 2 0 rfl rfl (sm_inB e_4) rfl d_Plc_lastOf_12 ?_
    refine lv_goto (tgt := 18) hx hb d_Plc_lastOf_13 (by decide) ?_
    refine sm_ri (v := la v.toNatClampNeg) (ws := [(pl, .inr (2, [.ref pf, .ref pa, .ref po, .ref pr, .ref ps, .ref pd, .ref ph, .ref pq, .int (nI wo), .int (nI wr), .int sc])), (pf, .inl (cI, 24, .inl fi)), (pa, .inl (cI, 24, .inl la)), (po, .inl (cZ, 24, .inl ov)), (pr, .inl (cI, 24, .inl rg)), (ps, .inl (cI, 24, .inl sl)), (pd, .inl (cI, 24, .inl od)), (ph, .inl (cI, 8, .inl rh)), (pq, .inl (cI, 24, .inl sh))]) hx hb hr hlocks hK (hP.sub [0, 1, 2, 3, 4, 5, 6, 7, 8] rfl) (hD.sub [0, 1, 2, 3, 4, 5, 6, 7, 8] (by decide) rfl) hS ?_ d_Plc_lastOf_18
    exact ⟨by simp [fO, e_4], rfl⟩
abbrev y_Plc_areOverCall : MethodName := ⟨"ScanMill$Places", "areOverCall", "(I)Z"⟩
theorem d_Plc_areOverCall_0 : decode prog_4_method_6_code 0 = .ok (.iload_n 1, 1) := by decide +kernel
theorem d_Plc_areOverCall_1 : decode prog_4_method_6_code 1 = .ok (.invokestatic 68, 3) := by decide +kernel
theorem d_Plc_areOverCall_4 : decode prog_4_method_6_code 4 = .ok (.ifCond .eq 16, 3) := by decide +kernel
theorem d_Plc_areOverCall_20 : decode prog_4_method_6_code 20 = .ok (.iconst 0, 1) := by decide +kernel
theorem d_Plc_areOverCall_21 : decode prog_4_method_6_code 21 = .ok (.ireturn, 1) := by decide +kernel
theorem d_Plc_areOverCall_7 : decode prog_4_method_6_code 7 = .ok (.aload_n 0, 1) := by decide +kernel
theorem d_Plc_areOverCall_8 : decode prog_4_method_6_code 8 = .ok (.getfield 18, 3) := by decide +kernel
theorem mw_67 : Cond.fieldLink "ScanMill$Places" 18 "ScanMill$Places" "overCall" "[Z" ∈ wG := wG_t 67 (by decide +kernel) (by decide +kernel)
theorem d_Plc_areOverCall_11 : decode prog_4_method_6_code 11 = .ok (.iload_n 1, 1) := by decide +kernel
theorem d_Plc_areOverCall_12 : decode prog_4_method_6_code 12 = .ok (.baload, 1) := by decide +kernel
theorem d_Plc_areOverCall_13 : decode prog_4_method_6_code 13 = .ok (.ifCond .eq 7, 3) := by decide +kernel
theorem d_Plc_areOverCall_16 : decode prog_4_method_6_code 16 = .ok (.iconst 1, 1) := by decide +kernel
theorem d_Plc_areOverCall_17 : decode prog_4_method_6_code 17 = .ok (.goto 4, 3) := by decide +kernel
set_option maxRecDepth 100000 in
set_option maxHeartbeats 4000000 in
theorem c_Plc_areOverCall {l : Launch} {dC : Nat → ClassId} {dI : Nat → Nat → Nat} {cI cZ : ClassId} {pl pf pa po pr ps pd ph pq wo wr : Nat} {fi la ov rg sl od rh sh : Nat → Int32} {sc : Int32} {v : Int32}  : sm_I l y_Plc_areOverCall prog_4_method_6_code 2 (some .boolean) (rmF 1 20) (dC, dI) smC [(cI, .int), (cZ, .boolean)] [.ref pl, .int v] [(pl, .inr (2, [.ref pf, .ref pa, .ref po, .ref pr, .ref ps, .ref pd, .ref ph, .ref pq, .int (nI wo), .int (nI wr), .int sc])), (pf, .inl (cI, 24, .inl fi)), (pa, .inl (cI, 24, .inl la)), (po, .inl (cZ, 24, .inl ov)), (pr, .inl (cI, 24, .inl rg)), (ps, .inl (cI, 24, .inl sl)), (pd, .inl (cI, 24, .inl od)), (ph, .inl (cI, 8, .inl rh)), (pq, .inl (cI, 24, .inl sh))] (fun q w2 => q = (b2i (ovB ov v)) ∧ w2 = [(pl, .inr (2, [.ref pf, .ref pa, .ref po, .ref pr, .ref ps, .ref pd, .ref ph, .ref pq, .int (nI wo), .int (nI wr), .int sc])), (pf, .inl (cI, 24, .inl fi)), (pa, .inl (cI, 24, .inl la)), (po, .inl (cZ, 24, .inl ov)), (pr, .inl (cI, 24, .inl rg)), (ps, .inl (cI, 24, .inl sl)), (pd, .inl (cI, 24, .inl od)), (ph, .inl (cI, 8, .inl rh)), (pq, .inl (cI, 24, .inl sh))]) := by
  refine sm_I.mk (by decide) (Nat.le_of_ble_eq_true rfl) ?_
  intro p e s m below meth c A H locs ls hx hb hr ht hown hlocks hml hnm hP hK hD hA hS hN hl
  have hl : lv_has ls 2 [(0, .ref pl), (1, .int v)] := hl
  refine lv_iload_n hx hb d_Plc_areOverCall_0 rfl (lv_at hl 1 rfl) ?_
  refine sm_goi (wc := []) (wr := [(pl, .inr (2, [.ref pf, .ref pa, .ref po, .ref pr, .ref ps, .ref pd, .ref ph, .ref pq, .int (nI wo), .int (nI wr), .int sc])), (pf, .inl (cI, 24, .inl fi)), (pa, .inl (cI, 24, .inl la)), (po, .inl (cZ, 24, .inl ov)), (pr, .inl (cI, 24, .inl rg)), (ps, .inl (cI, 24, .inl sl)), (pd, .inl (cI, 24, .inl od)), (ph, .inl (cI, 8, .inl rh)), (pq, .inl (cI, 24, .inl sh))]) (va_runSN (As := [.int v]) (rest := []) ⟨hx, hb, hml, hown, ht⟩ ((c_Mill_isValue (l := l) (dC := dC) (dI := dI) (cI := cI) (cZ := cZ) (v := v) ).at H.size) (sm_cN 1 ht mw_163 mw_1 hN.2.2.2 mw_162 rfl rfl (by decide +kernel) ⟨Nat.le_of_ble_eq_true rfl, Nat.le_of_ble_eq_true rfl⟩) (sm_preS hN hK hP hD [] rfl rfl (by decide)) rfl rfl hl.1 rfl (lv_room (Nat.le_of_ble_eq_true rfl)) d_Plc_areOverCall_1 ⟨Nat.zero_le _, Nat.zero_le _⟩) hP hD hS hA [] [0, 1, 2, 3, 4, 5, 6, 7, 8] rfl rfl (by decide) (by decide) (fun r_1 w_1 H locs q_1 hP hD hS => ?_)
  obtain ⟨rfl, rfl⟩ := q_1
  have hP : va_P (dC, dI) smC [(pl, .inr (2, [.ref pf, .ref pa, .ref po, .ref pr, .ref ps, .ref pd, .ref ph, .ref pq, .int (nI wo), .int (nI wr), .int sc])), (pf, .inl (cI, 24, .inl fi)), (pa, .inl (cI, 24, .inl la)), (po, .inl (cZ, 24, .inl ov)), (pr, .inl (cI, 24, .inl rg)), (ps, .inl (cI, 24, .inl sl)), (pd, .inl (cI, 24, .inl od)), (ph, .inl (cI, 8, .inl rh)), (pq, .inl (cI, 24, .inl sh))] H := hP
  have hD : va_D A [(pl, .inr (2, [.ref pf, .ref pa, .ref po, .ref pr, .ref ps, .ref pd, .ref ph, .ref pq, .int (nI wo), .int (nI wr), .int sc])), (pf, .inl (cI, 24, .inl fi)), (pa, .inl (cI, 24, .inl la)), (po, .inl (cZ, 24, .inl ov)), (pr, .inl (cI, 24, .inl rg)), (ps, .inl (cI, 24, .inl sl)), (pd, .inl (cI, 24, .inl od)), (ph, .inl (cI, 8, .inl rh)), (pq, .inl (cI, 24, .inl sh))] := hD
  refine lv_if_eq (tgt := 20) hx hb d_Plc_areOverCall_4 (by decide) (fun c_4 => ?_) (fun c_4 => ?_)
  · skip
    have e_4 : (inB v 24) = false := b2i_eq0 c_4
    refine lv_iconst (v := 0) hx hb d_Plc_areOverCall_20 (by decide) ?_
    refine sm_rz (v := (0 : Int32)) (ws := [(pl, .inr (2, [.ref pf, .ref pa, .ref po, .ref pr, .ref ps, .ref pd, .ref ph, .ref pq, .int (nI wo), .int (nI wr), .int sc])), (pf, .inl (cI, 24, .inl fi)), (pa, .inl (cI, 24, .inl la)), (po, .inl (cZ, 24, .inl ov)), (pr, .inl (cI, 24, .inl rg)), (ps, .inl (cI, 24, .inl sl)), (pd, .inl (cI, 24, .inl od)), (ph, .inl (cI, 8, .inl rh)), (pq, .inl (cI, 24, .inl sh))]) hx hb hr hlocks hK (hP.sub [0, 1, 2, 3, 4, 5, 6, 7, 8] rfl) (hD.sub [0, 1, 2, 3, 4, 5, 6, 7, 8] (by decide) rfl) hS (by decide) ?_ d_Plc_areOverCall_21
    exact ⟨by simp [ovB, b2i, e_4], rfl⟩
  · skip
    have e_4 : (inB v 24) = true := b2i_ne0 c_4
    refine lv_aload_n hx hb d_Plc_areOverCall_7 rfl (lv_at hl 0 rfl) ?_
    refine va_get (D := (dC, dI)) (ci := 2) (v := .ref po) (C := R_Plc) (T := T_Plc) (N := 11) hx hb ht i_Plc hown hK hP 0 rfl rfl 2 (by decide) (ht _ mw_67) (fun _ h9 => h9) rfl d_Plc_areOverCall_8 ?_
    refine lv_iload_n hx hb d_Plc_areOverCall_11 rfl (lv_at hl 1 rfl) ?_
    refine sm_zald (j := v.toNatClampNeg) hx hb hK hP 3 1 rfl rfl (sm_inB e_4) rfl d_Plc_areOverCall_12 ?_
    refine lv_if_eq (tgt := 20) hx hb d_Plc_areOverCall_13 (by decide) (fun c_13 => ?_) (fun c_13 => ?_)
    · skip
      refine lv_iconst (v := 0) hx hb d_Plc_areOverCall_20 (by decide) ?_
      refine sm_rz (v := (0 : Int32)) (ws := [(pl, .inr (2, [.ref pf, .ref pa, .ref po, .ref pr, .ref ps, .ref pd, .ref ph, .ref pq, .int (nI wo), .int (nI wr), .int sc])), (pf, .inl (cI, 24, .inl fi)), (pa, .inl (cI, 24, .inl la)), (po, .inl (cZ, 24, .inl ov)), (pr, .inl (cI, 24, .inl rg)), (ps, .inl (cI, 24, .inl sl)), (pd, .inl (cI, 24, .inl od)), (ph, .inl (cI, 8, .inl rh)), (pq, .inl (cI, 24, .inl sh))]) hx hb hr hlocks hK (hP.sub [0, 1, 2, 3, 4, 5, 6, 7, 8] rfl) (hD.sub [0, 1, 2, 3, 4, 5, 6, 7, 8] (by decide) rfl) hS (by decide) ?_ d_Plc_areOverCall_21
      exact ⟨by simp [ovB, b2i, e_4, c_13], rfl⟩
    · skip
      refine lv_iconst (v := 1) hx hb d_Plc_areOverCall_16 (by decide) ?_
      refine lv_goto (tgt := 21) hx hb d_Plc_areOverCall_17 (by decide) ?_
      refine sm_rz (v := (1 : Int32)) (ws := [(pl, .inr (2, [.ref pf, .ref pa, .ref po, .ref pr, .ref ps, .ref pd, .ref ph, .ref pq, .int (nI wo), .int (nI wr), .int sc])), (pf, .inl (cI, 24, .inl fi)), (pa, .inl (cI, 24, .inl la)), (po, .inl (cZ, 24, .inl ov)), (pr, .inl (cI, 24, .inl rg)), (ps, .inl (cI, 24, .inl sl)), (pd, .inl (cI, 24, .inl od)), (ph, .inl (cI, 8, .inl rh)), (pq, .inl (cI, 24, .inl sh))]) hx hb hr hlocks hK (hP.sub [0, 1, 2, 3, 4, 5, 6, 7, 8] rfl) (hD.sub [0, 1, 2, 3, 4, 5, 6, 7, 8] (by decide) rfl) hS (by decide) ?_ d_Plc_areOverCall_21
      exact ⟨by simp [ovB, b2i, e_4, c_13], rfl⟩
abbrev y_Plc_registerOf : MethodName := ⟨"ScanMill$Places", "registerOf", "(I)I"⟩
theorem d_Plc_registerOf_0 : decode prog_4_method_7_code 0 = .ok (.iload_n 1, 1) := by decide +kernel
theorem d_Plc_registerOf_1 : decode prog_4_method_7_code 1 = .ok (.invokestatic 68, 3) := by decide +kernel
theorem d_Plc_registerOf_4 : decode prog_4_method_7_code 4 = .ok (.ifCond .eq 12, 3) := by decide +kernel
theorem d_Plc_registerOf_16 : decode prog_4_method_7_code 16 = .ok (.iconst (-1), 1) := by decide +kernel
theorem d_Plc_registerOf_17 : decode prog_4_method_7_code 17 = .ok (.ireturn, 1) := by decide +kernel
theorem d_Plc_registerOf_7 : decode prog_4_method_7_code 7 = .ok (.aload_n 0, 1) := by decide +kernel
theorem d_Plc_registerOf_8 : decode prog_4_method_7_code 8 = .ok (.getfield 22, 3) := by decide +kernel
theorem mw_68 : Cond.fieldLink "ScanMill$Places" 22 "ScanMill$Places" "registers" "[I" ∈ wG := wG_t 68 (by decide +kernel) (by decide +kernel)
theorem d_Plc_registerOf_11 : decode prog_4_method_7_code 11 = .ok (.iload_n 1, 1) := by decide +kernel
theorem d_Plc_registerOf_12 : decode prog_4_method_7_code 12 = .ok (.iaload, 1) := by decide +kernel
theorem d_Plc_registerOf_13 : decode prog_4_method_7_code 13 = .ok (.goto 4, 3) := by decide +kernel
set_option maxRecDepth 100000 in
set_option maxHeartbeats 4000000 in
theorem c_Plc_registerOf {l : Launch} {dC : Nat → ClassId} {dI : Nat → Nat → Nat} {cI cZ : ClassId} {pl pf pa po pr ps pd ph pq wo wr : Nat} {fi la ov rg sl od rh sh : Nat → Int32} {sc : Int32} {v : Int32}  : sm_I l y_Plc_registerOf prog_4_method_7_code 2 (some .int) (rmF 1 20) (dC, dI) smC [(cI, .int), (cZ, .boolean)] [.ref pl, .int v] [(pl, .inr (2, [.ref pf, .ref pa, .ref po, .ref pr, .ref ps, .ref pd, .ref ph, .ref pq, .int (nI wo), .int (nI wr), .int sc])), (pf, .inl (cI, 24, .inl fi)), (pa, .inl (cI, 24, .inl la)), (po, .inl (cZ, 24, .inl ov)), (pr, .inl (cI, 24, .inl rg)), (ps, .inl (cI, 24, .inl sl)), (pd, .inl (cI, 24, .inl od)), (ph, .inl (cI, 8, .inl rh)), (pq, .inl (cI, 24, .inl sh))] (fun q w2 => q = (rO rg v) ∧ w2 = [(pl, .inr (2, [.ref pf, .ref pa, .ref po, .ref pr, .ref ps, .ref pd, .ref ph, .ref pq, .int (nI wo), .int (nI wr), .int sc])), (pf, .inl (cI, 24, .inl fi)), (pa, .inl (cI, 24, .inl la)), (po, .inl (cZ, 24, .inl ov)), (pr, .inl (cI, 24, .inl rg)), (ps, .inl (cI, 24, .inl sl)), (pd, .inl (cI, 24, .inl od)), (ph, .inl (cI, 8, .inl rh)), (pq, .inl (cI, 24, .inl sh))]) := by
  refine sm_I.mk (by decide) (Nat.le_of_ble_eq_true rfl) ?_
  intro p e s m below meth c A H locs ls hx hb hr ht hown hlocks hml hnm hP hK hD hA hS hN hl
  have hl : lv_has ls 2 [(0, .ref pl), (1, .int v)] := hl
  refine lv_iload_n hx hb d_Plc_registerOf_0 rfl (lv_at hl 1 rfl) ?_
  refine sm_goi (wc := []) (wr := [(pl, .inr (2, [.ref pf, .ref pa, .ref po, .ref pr, .ref ps, .ref pd, .ref ph, .ref pq, .int (nI wo), .int (nI wr), .int sc])), (pf, .inl (cI, 24, .inl fi)), (pa, .inl (cI, 24, .inl la)), (po, .inl (cZ, 24, .inl ov)), (pr, .inl (cI, 24, .inl rg)), (ps, .inl (cI, 24, .inl sl)), (pd, .inl (cI, 24, .inl od)), (ph, .inl (cI, 8, .inl rh)), (pq, .inl (cI, 24, .inl sh))]) (va_runSN (As := [.int v]) (rest := []) ⟨hx, hb, hml, hown, ht⟩ ((c_Mill_isValue (l := l) (dC := dC) (dI := dI) (cI := cI) (cZ := cZ) (v := v) ).at H.size) (sm_cN 1 ht mw_163 mw_1 hN.2.2.2 mw_162 rfl rfl (by decide +kernel) ⟨Nat.le_of_ble_eq_true rfl, Nat.le_of_ble_eq_true rfl⟩) (sm_preS hN hK hP hD [] rfl rfl (by decide)) rfl rfl hl.1 rfl (lv_room (Nat.le_of_ble_eq_true rfl)) d_Plc_registerOf_1 ⟨Nat.zero_le _, Nat.zero_le _⟩) hP hD hS hA [] [0, 1, 2, 3, 4, 5, 6, 7, 8] rfl rfl (by decide) (by decide) (fun r_1 w_1 H locs q_1 hP hD hS => ?_)
  obtain ⟨rfl, rfl⟩ := q_1
  have hP : va_P (dC, dI) smC [(pl, .inr (2, [.ref pf, .ref pa, .ref po, .ref pr, .ref ps, .ref pd, .ref ph, .ref pq, .int (nI wo), .int (nI wr), .int sc])), (pf, .inl (cI, 24, .inl fi)), (pa, .inl (cI, 24, .inl la)), (po, .inl (cZ, 24, .inl ov)), (pr, .inl (cI, 24, .inl rg)), (ps, .inl (cI, 24, .inl sl)), (pd, .inl (cI, 24, .inl od)), (ph, .inl (cI, 8, .inl rh)), (pq, .inl (cI, 24, .inl sh))] H := hP
  have hD : va_D A [(pl, .inr (2, [.ref pf, .ref pa, .ref po, .ref pr, .ref ps, .ref pd, .ref ph, .ref pq, .int (nI wo), .int (nI wr), .int sc])), (pf, .inl (cI, 24, .inl fi)), (pa, .inl (cI, 24, .inl la)), (po, .inl (cZ, 24, .inl ov)), (pr, .inl (cI, 24, .inl rg)), (ps, .inl (cI, 24, .inl sl)), (pd, .inl (cI, 24, .inl od)), (ph, .inl (cI, 8, .inl rh)), (pq, .inl (cI, 24, .inl sh))] := hD
  refine lv_if_eq (tgt := 16) hx hb d_Plc_registerOf_4 (by decide) (fun c_4 => ?_) (fun c_4 => ?_)
  · skip
    have e_4 : (inB v 24) = false := b2i_eq0 c_4
    refine lv_iconst (v := -1) hx hb d_Plc_registerOf_16 (by decide) ?_
    refine sm_ri (v := (-1 : Int32)) (ws := [(pl, .inr (2, [.ref pf, .ref pa, .ref po, .ref pr, .ref ps, .ref pd, .ref ph, .ref pq, .int (nI wo), .int (nI wr), .int sc])), (pf, .inl (cI, 24, .inl fi)), (pa, .inl (cI, 24, .inl la)), (po, .inl (cZ, 24, .inl ov)), (pr, .inl (cI, 24, .inl rg)), (ps, .inl (cI, 24, .inl sl)), (pd, .inl (cI, 24, .inl od)), (ph, .inl (cI, 8, .inl rh)), (pq, .inl (cI, 24, .inl sh))]) hx hb hr hlocks hK (hP.sub [0, 1, 2, 3, 4, 5, 6, 7, 8] rfl) (hD.sub [0, 1, 2, 3, 4, 5, 6, 7, 8] (by decide) rfl) hS ?_ d_Plc_registerOf_17
    exact ⟨by simp [rO, e_4], rfl⟩
  · skip
    have e_4 : (inB v 24) = true := b2i_ne0 c_4
    refine lv_aload_n hx hb d_Plc_registerOf_7 rfl (lv_at hl 0 rfl) ?_
    refine va_get (D := (dC, dI)) (ci := 2) (v := .ref pr) (C := R_Plc) (T := T_Plc) (N := 11) hx hb ht i_Plc hown hK hP 0 rfl rfl 3 (by decide) (ht _ mw_68) (fun _ h9 => h9) rfl d_Plc_registerOf_8 ?_
    refine lv_iload_n hx hb d_Plc_registerOf_11 rfl (lv_at hl 1 rfl) ?_
    refine sm_iald (j := v.toNatClampNeg) hx hb hK hP 4 0 rfl rfl (sm_inB e_4) rfl d_Plc_registerOf_12 ?_
    refine lv_goto (tgt := 17) hx hb d_Plc_registerOf_13 (by decide) ?_
    refine sm_ri (v := rg v.toNatClampNeg) (ws := [(pl, .inr (2, [.ref pf, .ref pa, .ref po, .ref pr, .ref ps, .ref pd, .ref ph, .ref pq, .int (nI wo), .int (nI wr), .int sc])), (pf, .inl (cI, 24, .inl fi)), (pa, .inl (cI, 24, .inl la)), (po, .inl (cZ, 24, .inl ov)), (pr, .inl (cI, 24, .inl rg)), (ps, .inl (cI, 24, .inl sl)), (pd, .inl (cI, 24, .inl od)), (ph, .inl (cI, 8, .inl rh)), (pq, .inl (cI, 24, .inl sh))]) hx hb hr hlocks hK (hP.sub [0, 1, 2, 3, 4, 5, 6, 7, 8] rfl) (hD.sub [0, 1, 2, 3, 4, 5, 6, 7, 8] (by decide) rfl) hS ?_ d_Plc_registerOf_17
    exact ⟨by simp [rO, e_4], rfl⟩
abbrev y_Plc_slotOf : MethodName := ⟨"ScanMill$Places", "slotOf", "(I)I"⟩
theorem d_Plc_slotOf_0 : decode prog_4_method_8_code 0 = .ok (.iload_n 1, 1) := by decide +kernel
theorem d_Plc_slotOf_1 : decode prog_4_method_8_code 1 = .ok (.invokestatic 68, 3) := by decide +kernel
theorem d_Plc_slotOf_4 : decode prog_4_method_8_code 4 = .ok (.ifCond .eq 12, 3) := by decide +kernel
theorem d_Plc_slotOf_16 : decode prog_4_method_8_code 16 = .ok (.iconst (-1), 1) := by decide +kernel
theorem d_Plc_slotOf_17 : decode prog_4_method_8_code 17 = .ok (.ireturn, 1) := by decide +kernel
theorem d_Plc_slotOf_7 : decode prog_4_method_8_code 7 = .ok (.aload_n 0, 1) := by decide +kernel
theorem d_Plc_slotOf_8 : decode prog_4_method_8_code 8 = .ok (.getfield 25, 3) := by decide +kernel
theorem mw_69 : Cond.fieldLink "ScanMill$Places" 25 "ScanMill$Places" "slots" "[I" ∈ wG := wG_t 69 (by decide +kernel) (by decide +kernel)
theorem d_Plc_slotOf_11 : decode prog_4_method_8_code 11 = .ok (.iload_n 1, 1) := by decide +kernel
theorem d_Plc_slotOf_12 : decode prog_4_method_8_code 12 = .ok (.iaload, 1) := by decide +kernel
theorem d_Plc_slotOf_13 : decode prog_4_method_8_code 13 = .ok (.goto 4, 3) := by decide +kernel
set_option maxRecDepth 100000 in
set_option maxHeartbeats 4000000 in
theorem c_Plc_slotOf {l : Launch} {dC : Nat → ClassId} {dI : Nat → Nat → Nat} {cI cZ : ClassId} {pl pf pa po pr ps pd ph pq wo wr : Nat} {fi la ov rg sl od rh sh : Nat → Int32} {sc : Int32} {v : Int32}  : sm_I l y_Plc_slotOf prog_4_method_8_code 2 (some .int) (rmF 1 20) (dC, dI) smC [(cI, .int), (cZ, .boolean)] [.ref pl, .int v] [(pl, .inr (2, [.ref pf, .ref pa, .ref po, .ref pr, .ref ps, .ref pd, .ref ph, .ref pq, .int (nI wo), .int (nI wr), .int sc])), (pf, .inl (cI, 24, .inl fi)), (pa, .inl (cI, 24, .inl la)), (po, .inl (cZ, 24, .inl ov)), (pr, .inl (cI, 24, .inl rg)), (ps, .inl (cI, 24, .inl sl)), (pd, .inl (cI, 24, .inl od)), (ph, .inl (cI, 8, .inl rh)), (pq, .inl (cI, 24, .inl sh))] (fun q w2 => q = (rO sl v) ∧ w2 = [(pl, .inr (2, [.ref pf, .ref pa, .ref po, .ref pr, .ref ps, .ref pd, .ref ph, .ref pq, .int (nI wo), .int (nI wr), .int sc])), (pf, .inl (cI, 24, .inl fi)), (pa, .inl (cI, 24, .inl la)), (po, .inl (cZ, 24, .inl ov)), (pr, .inl (cI, 24, .inl rg)), (ps, .inl (cI, 24, .inl sl)), (pd, .inl (cI, 24, .inl od)), (ph, .inl (cI, 8, .inl rh)), (pq, .inl (cI, 24, .inl sh))]) := by
  refine sm_I.mk (by decide) (Nat.le_of_ble_eq_true rfl) ?_
  intro p e s m below meth c A H locs ls hx hb hr ht hown hlocks hml hnm hP hK hD hA hS hN hl
  have hl : lv_has ls 2 [(0, .ref pl), (1, .int v)] := hl
  refine lv_iload_n hx hb d_Plc_slotOf_0 rfl (lv_at hl 1 rfl) ?_
  refine sm_goi (wc := []) (wr := [(pl, .inr (2, [.ref pf, .ref pa, .ref po, .ref pr, .ref ps, .ref pd, .ref ph, .ref pq, .int (nI wo), .int (nI wr), .int sc])), (pf, .inl (cI, 24, .inl fi)), (pa, .inl (cI, 24, .inl la)), (po, .inl (cZ, 24, .inl ov)), (pr, .inl (cI, 24, .inl rg)), (ps, .inl (cI, 24, .inl sl)), (pd, .inl (cI, 24, .inl od)), (ph, .inl (cI, 8, .inl rh)), (pq, .inl (cI, 24, .inl sh))]) (va_runSN (As := [.int v]) (rest := []) ⟨hx, hb, hml, hown, ht⟩ ((c_Mill_isValue (l := l) (dC := dC) (dI := dI) (cI := cI) (cZ := cZ) (v := v) ).at H.size) (sm_cN 1 ht mw_163 mw_1 hN.2.2.2 mw_162 rfl rfl (by decide +kernel) ⟨Nat.le_of_ble_eq_true rfl, Nat.le_of_ble_eq_true rfl⟩) (sm_preS hN hK hP hD [] rfl rfl (by decide)) rfl rfl hl.1 rfl (lv_room (Nat.le_of_ble_eq_true rfl)) d_Plc_slotOf_1 ⟨Nat.zero_le _, Nat.zero_le _⟩) hP hD hS hA [] [0, 1, 2, 3, 4, 5, 6, 7, 8] rfl rfl (by decide) (by decide) (fun r_1 w_1 H locs q_1 hP hD hS => ?_)
  obtain ⟨rfl, rfl⟩ := q_1
  have hP : va_P (dC, dI) smC [(pl, .inr (2, [.ref pf, .ref pa, .ref po, .ref pr, .ref ps, .ref pd, .ref ph, .ref pq, .int (nI wo), .int (nI wr), .int sc])), (pf, .inl (cI, 24, .inl fi)), (pa, .inl (cI, 24, .inl la)), (po, .inl (cZ, 24, .inl ov)), (pr, .inl (cI, 24, .inl rg)), (ps, .inl (cI, 24, .inl sl)), (pd, .inl (cI, 24, .inl od)), (ph, .inl (cI, 8, .inl rh)), (pq, .inl (cI, 24, .inl sh))] H := hP
  have hD : va_D A [(pl, .inr (2, [.ref pf, .ref pa, .ref po, .ref pr, .ref ps, .ref pd, .ref ph, .ref pq, .int (nI wo), .int (nI wr), .int sc])), (pf, .inl (cI, 24, .inl fi)), (pa, .inl (cI, 24, .inl la)), (po, .inl (cZ, 24, .inl ov)), (pr, .inl (cI, 24, .inl rg)), (ps, .inl (cI, 24, .inl sl)), (pd, .inl (cI, 24, .inl od)), (ph, .inl (cI, 8, .inl rh)), (pq, .inl (cI, 24, .inl sh))] := hD
  refine lv_if_eq (tgt := 16) hx hb d_Plc_slotOf_4 (by decide) (fun c_4 => ?_) (fun c_4 => ?_)
  · skip
    have e_4 : (inB v 24) = false := b2i_eq0 c_4
    refine lv_iconst (v := -1) hx hb d_Plc_slotOf_16 (by decide) ?_
    refine sm_ri (v := (-1 : Int32)) (ws := [(pl, .inr (2, [.ref pf, .ref pa, .ref po, .ref pr, .ref ps, .ref pd, .ref ph, .ref pq, .int (nI wo), .int (nI wr), .int sc])), (pf, .inl (cI, 24, .inl fi)), (pa, .inl (cI, 24, .inl la)), (po, .inl (cZ, 24, .inl ov)), (pr, .inl (cI, 24, .inl rg)), (ps, .inl (cI, 24, .inl sl)), (pd, .inl (cI, 24, .inl od)), (ph, .inl (cI, 8, .inl rh)), (pq, .inl (cI, 24, .inl sh))]) hx hb hr hlocks hK (hP.sub [0, 1, 2, 3, 4, 5, 6, 7, 8] rfl) (hD.sub [0, 1, 2, 3, 4, 5, 6, 7, 8] (by decide) rfl) hS ?_ d_Plc_slotOf_17
    exact ⟨by simp [rO, e_4], rfl⟩
  · skip
    have e_4 : (inB v 24) = true := b2i_ne0 c_4
    refine lv_aload_n hx hb d_Plc_slotOf_7 rfl (lv_at hl 0 rfl) ?_
    refine va_get (D := (dC, dI)) (ci := 2) (v := .ref ps) (C := R_Plc) (T := T_Plc) (N := 11) hx hb ht i_Plc hown hK hP 0 rfl rfl 4 (by decide) (ht _ mw_69) (fun _ h9 => h9) rfl d_Plc_slotOf_8 ?_
    refine lv_iload_n hx hb d_Plc_slotOf_11 rfl (lv_at hl 1 rfl) ?_
    refine sm_iald (j := v.toNatClampNeg) hx hb hK hP 5 0 rfl rfl (sm_inB e_4) rfl d_Plc_slotOf_12 ?_
    refine lv_goto (tgt := 17) hx hb d_Plc_slotOf_13 (by decide) ?_
    refine sm_ri (v := sl v.toNatClampNeg) (ws := [(pl, .inr (2, [.ref pf, .ref pa, .ref po, .ref pr, .ref ps, .ref pd, .ref ph, .ref pq, .int (nI wo), .int (nI wr), .int sc])), (pf, .inl (cI, 24, .inl fi)), (pa, .inl (cI, 24, .inl la)), (po, .inl (cZ, 24, .inl ov)), (pr, .inl (cI, 24, .inl rg)), (ps, .inl (cI, 24, .inl sl)), (pd, .inl (cI, 24, .inl od)), (ph, .inl (cI, 8, .inl rh)), (pq, .inl (cI, 24, .inl sh))]) hx hb hr hlocks hK (hP.sub [0, 1, 2, 3, 4, 5, 6, 7, 8] rfl) (hD.sub [0, 1, 2, 3, 4, 5, 6, 7, 8] (by decide) rfl) hS ?_ d_Plc_slotOf_17
    exact ⟨by simp [rO, e_4], rfl⟩
abbrev y_Plc_valuesThatAre : MethodName := ⟨"ScanMill$Places", "valuesThatAre", "()I"⟩
theorem d_Plc_valuesThatAre_0 : decode prog_4_method_9_code 0 = .ok (.aload_n 0, 1) := by decide +kernel
theorem d_Plc_valuesThatAre_1 : decode prog_4_method_9_code 1 = .ok (.getfield 37, 3) := by decide +kernel
theorem mw_73 : Cond.fieldLink "ScanMill$Places" 37 "ScanMill$Places" "ordered" "I" ∈ wG := wG_t 73 (by decide +kernel) (by decide +kernel)
theorem d_Plc_valuesThatAre_4 : decode prog_4_method_9_code 4 = .ok (.ireturn, 1) := by decide +kernel
set_option maxRecDepth 100000 in
set_option maxHeartbeats 4000000 in
theorem c_Plc_valuesThatAre {l : Launch} {dC : Nat → ClassId} {dI : Nat → Nat → Nat} {cI cZ : ClassId} {pl pf pa po pr ps pd ph pq wo wr : Nat} {fi la ov rg sl od rh sh : Nat → Int32} {sc : Int32}  : sm_I l y_Plc_valuesThatAre prog_4_method_9_code 1 (some .int) (rmF 0 0) (dC, dI) smC [(cI, .int), (cZ, .boolean)] [.ref pl] [(pl, .inr (2, [.ref pf, .ref pa, .ref po, .ref pr, .ref ps, .ref pd, .ref ph, .ref pq, .int (nI wo), .int (nI wr), .int sc])), (pf, .inl (cI, 24, .inl fi)), (pa, .inl (cI, 24, .inl la)), (po, .inl (cZ, 24, .inl ov)), (pr, .inl (cI, 24, .inl rg)), (ps, .inl (cI, 24, .inl sl)), (pd, .inl (cI, 24, .inl od)), (ph, .inl (cI, 8, .inl rh)), (pq, .inl (cI, 24, .inl sh))] (fun q w2 => q = (nI wo) ∧ w2 = [(pl, .inr (2, [.ref pf, .ref pa, .ref po, .ref pr, .ref ps, .ref pd, .ref ph, .ref pq, .int (nI wo), .int (nI wr), .int sc])), (pf, .inl (cI, 24, .inl fi)), (pa, .inl (cI, 24, .inl la)), (po, .inl (cZ, 24, .inl ov)), (pr, .inl (cI, 24, .inl rg)), (ps, .inl (cI, 24, .inl sl)), (pd, .inl (cI, 24, .inl od)), (ph, .inl (cI, 8, .inl rh)), (pq, .inl (cI, 24, .inl sh))]) := by
  refine sm_I.mk (by decide) (Nat.le_of_ble_eq_true rfl) ?_
  intro p e s m below meth c A H locs ls hx hb hr ht hown hlocks hml hnm hP hK hD hA hS hN hl
  have hl : lv_has ls 1 [(0, .ref pl)] := hl
  refine lv_aload_n hx hb d_Plc_valuesThatAre_0 rfl (lv_at hl 0 rfl) ?_
  refine va_get (D := (dC, dI)) (ci := 2) (v := .int (nI wo)) (C := R_Plc) (T := T_Plc) (N := 11) hx hb ht i_Plc hown hK hP 0 rfl rfl 8 (by decide) (ht _ mw_73) (fun _ h9 => h9) rfl d_Plc_valuesThatAre_1 ?_
  refine sm_ri (v := nI wo) (ws := [(pl, .inr (2, [.ref pf, .ref pa, .ref po, .ref pr, .ref ps, .ref pd, .ref ph, .ref pq, .int (nI wo), .int (nI wr), .int sc])), (pf, .inl (cI, 24, .inl fi)), (pa, .inl (cI, 24, .inl la)), (po, .inl (cZ, 24, .inl ov)), (pr, .inl (cI, 24, .inl rg)), (ps, .inl (cI, 24, .inl sl)), (pd, .inl (cI, 24, .inl od)), (ph, .inl (cI, 8, .inl rh)), (pq, .inl (cI, 24, .inl sh))]) hx hb hr hlocks hK (hP.sub [0, 1, 2, 3, 4, 5, 6, 7, 8] rfl) (hD.sub [0, 1, 2, 3, 4, 5, 6, 7, 8] (by decide) rfl) hS ?_ d_Plc_valuesThatAre_4
  exact ⟨rfl, rfl⟩
abbrev y_Plc_registerCount : MethodName := ⟨"ScanMill$Places", "registerCount", "()I"⟩
theorem d_Plc_registerCount_0 : decode prog_4_method_10_code 0 = .ok (.aload_n 0, 1) := by decide +kernel
theorem d_Plc_registerCount_1 : decode prog_4_method_10_code 1 = .ok (.getfield 41, 3) := by decide +kernel
theorem mw_74 : Cond.fieldLink "ScanMill$Places" 41 "ScanMill$Places" "registerCount" "I" ∈ wG := wG_t 74 (by decide +kernel) (by decide +kernel)
theorem d_Plc_registerCount_4 : decode prog_4_method_10_code 4 = .ok (.ireturn, 1) := by decide +kernel
set_option maxRecDepth 100000 in
set_option maxHeartbeats 4000000 in
theorem c_Plc_registerCount {l : Launch} {dC : Nat → ClassId} {dI : Nat → Nat → Nat} {cI cZ : ClassId} {pl pf pa po pr ps pd ph pq wo wr : Nat} {fi la ov rg sl od rh sh : Nat → Int32} {sc : Int32}  : sm_I l y_Plc_registerCount prog_4_method_10_code 1 (some .int) (rmF 0 0) (dC, dI) smC [(cI, .int), (cZ, .boolean)] [.ref pl] [(pl, .inr (2, [.ref pf, .ref pa, .ref po, .ref pr, .ref ps, .ref pd, .ref ph, .ref pq, .int (nI wo), .int (nI wr), .int sc])), (pf, .inl (cI, 24, .inl fi)), (pa, .inl (cI, 24, .inl la)), (po, .inl (cZ, 24, .inl ov)), (pr, .inl (cI, 24, .inl rg)), (ps, .inl (cI, 24, .inl sl)), (pd, .inl (cI, 24, .inl od)), (ph, .inl (cI, 8, .inl rh)), (pq, .inl (cI, 24, .inl sh))] (fun q w2 => q = (nI wr) ∧ w2 = [(pl, .inr (2, [.ref pf, .ref pa, .ref po, .ref pr, .ref ps, .ref pd, .ref ph, .ref pq, .int (nI wo), .int (nI wr), .int sc])), (pf, .inl (cI, 24, .inl fi)), (pa, .inl (cI, 24, .inl la)), (po, .inl (cZ, 24, .inl ov)), (pr, .inl (cI, 24, .inl rg)), (ps, .inl (cI, 24, .inl sl)), (pd, .inl (cI, 24, .inl od)), (ph, .inl (cI, 8, .inl rh)), (pq, .inl (cI, 24, .inl sh))]) := by
  refine sm_I.mk (by decide) (Nat.le_of_ble_eq_true rfl) ?_
  intro p e s m below meth c A H locs ls hx hb hr ht hown hlocks hml hnm hP hK hD hA hS hN hl
  have hl : lv_has ls 1 [(0, .ref pl)] := hl
  refine lv_aload_n hx hb d_Plc_registerCount_0 rfl (lv_at hl 0 rfl) ?_
  refine va_get (D := (dC, dI)) (ci := 2) (v := .int (nI wr)) (C := R_Plc) (T := T_Plc) (N := 11) hx hb ht i_Plc hown hK hP 0 rfl rfl 9 (by decide) (ht _ mw_74) (fun _ h9 => h9) rfl d_Plc_registerCount_1 ?_
  refine sm_ri (v := nI wr) (ws := [(pl, .inr (2, [.ref pf, .ref pa, .ref po, .ref pr, .ref ps, .ref pd, .ref ph, .ref pq, .int (nI wo), .int (nI wr), .int sc])), (pf, .inl (cI, 24, .inl fi)), (pa, .inl (cI, 24, .inl la)), (po, .inl (cZ, 24, .inl ov)), (pr, .inl (cI, 24, .inl rg)), (ps, .inl (cI, 24, .inl sl)), (pd, .inl (cI, 24, .inl od)), (ph, .inl (cI, 8, .inl rh)), (pq, .inl (cI, 24, .inl sh))]) hx hb hr hlocks hK (hP.sub [0, 1, 2, 3, 4, 5, 6, 7, 8] rfl) (hD.sub [0, 1, 2, 3, 4, 5, 6, 7, 8] (by decide) rfl) hS ?_ d_Plc_registerCount_4
  exact ⟨rfl, rfl⟩
abbrev y_Plc_slotCount : MethodName := ⟨"ScanMill$Places", "slotCount", "()I"⟩
theorem d_Plc_slotCount_0 : decode prog_4_method_11_code 0 = .ok (.aload_n 0, 1) := by decide +kernel
theorem d_Plc_slotCount_1 : decode prog_4_method_11_code 1 = .ok (.getfield 44, 3) := by decide +kernel
theorem mw_75 : Cond.fieldLink "ScanMill$Places" 44 "ScanMill$Places" "slotCount" "I" ∈ wG := wG_t 75 (by decide +kernel) (by decide +kernel)
theorem d_Plc_slotCount_4 : decode prog_4_method_11_code 4 = .ok (.ireturn, 1) := by decide +kernel
set_option maxRecDepth 100000 in
set_option maxHeartbeats 4000000 in
theorem c_Plc_slotCount {l : Launch} {dC : Nat → ClassId} {dI : Nat → Nat → Nat} {cI cZ : ClassId} {pl pf pa po pr ps pd ph pq wo wr : Nat} {fi la ov rg sl od rh sh : Nat → Int32} {sc : Int32}  : sm_I l y_Plc_slotCount prog_4_method_11_code 1 (some .int) (rmF 0 0) (dC, dI) smC [(cI, .int), (cZ, .boolean)] [.ref pl] [(pl, .inr (2, [.ref pf, .ref pa, .ref po, .ref pr, .ref ps, .ref pd, .ref ph, .ref pq, .int (nI wo), .int (nI wr), .int sc])), (pf, .inl (cI, 24, .inl fi)), (pa, .inl (cI, 24, .inl la)), (po, .inl (cZ, 24, .inl ov)), (pr, .inl (cI, 24, .inl rg)), (ps, .inl (cI, 24, .inl sl)), (pd, .inl (cI, 24, .inl od)), (ph, .inl (cI, 8, .inl rh)), (pq, .inl (cI, 24, .inl sh))] (fun q w2 => q = sc ∧ w2 = [(pl, .inr (2, [.ref pf, .ref pa, .ref po, .ref pr, .ref ps, .ref pd, .ref ph, .ref pq, .int (nI wo), .int (nI wr), .int sc])), (pf, .inl (cI, 24, .inl fi)), (pa, .inl (cI, 24, .inl la)), (po, .inl (cZ, 24, .inl ov)), (pr, .inl (cI, 24, .inl rg)), (ps, .inl (cI, 24, .inl sl)), (pd, .inl (cI, 24, .inl od)), (ph, .inl (cI, 8, .inl rh)), (pq, .inl (cI, 24, .inl sh))]) := by
  refine sm_I.mk (by decide) (Nat.le_of_ble_eq_true rfl) ?_
  intro p e s m below meth c A H locs ls hx hb hr ht hown hlocks hml hnm hP hK hD hA hS hN hl
  have hl : lv_has ls 1 [(0, .ref pl)] := hl
  refine lv_aload_n hx hb d_Plc_slotCount_0 rfl (lv_at hl 0 rfl) ?_
  refine va_get (D := (dC, dI)) (ci := 2) (v := .int sc) (C := R_Plc) (T := T_Plc) (N := 11) hx hb ht i_Plc hown hK hP 0 rfl rfl 10 (by decide) (ht _ mw_75) (fun _ h9 => h9) rfl d_Plc_slotCount_1 ?_
  refine sm_ri (v := sc) (ws := [(pl, .inr (2, [.ref pf, .ref pa, .ref po, .ref pr, .ref ps, .ref pd, .ref ph, .ref pq, .int (nI wo), .int (nI wr), .int sc])), (pf, .inl (cI, 24, .inl fi)), (pa, .inl (cI, 24, .inl la)), (po, .inl (cZ, 24, .inl ov)), (pr, .inl (cI, 24, .inl rg)), (ps, .inl (cI, 24, .inl sl)), (pd, .inl (cI, 24, .inl od)), (ph, .inl (cI, 8, .inl rh)), (pq, .inl (cI, 24, .inl sh))]) hx hb hr hlocks hK (hP.sub [0, 1, 2, 3, 4, 5, 6, 7, 8] rfl) (hD.sub [0, 1, 2, 3, 4, 5, 6, 7, 8] (by decide) rfl) hS ?_ d_Plc_slotCount_4
  exact ⟨rfl, rfl⟩
abbrev y_Plc_valuesWithRegisters : MethodName := ⟨"ScanMill$Places", "valuesWithRegisters", "()I"⟩
theorem d_Plc_valuesWithRegisters_0 : decode prog_4_method_12_code 0 = .ok (.iconst 0, 1) := by decide +kernel
theorem d_Plc_valuesWithRegisters_1 : decode prog_4_method_12_code 1 = .ok (.istore_n 1, 1) := by decide +kernel
theorem d_Plc_valuesWithRegisters_2 : decode prog_4_method_12_code 2 = .ok (.iconst 0, 1) := by decide +kernel
theorem d_Plc_valuesWithRegisters_3 : decode prog_4_method_12_code 3 = .ok (.istore_n 2, 1) := by decide +kernel
theorem d_Plc_valuesWithRegisters_4 : decode prog_4_method_12_code 4 = .ok (.iload_n 2, 1) := by decide +kernel
theorem d_Plc_valuesWithRegisters_5 : decode prog_4_method_12_code 5 = .ok (.bipush 24, 2) := by decide +kernel
theorem d_Plc_valuesWithRegisters_7 : decode prog_4_method_12_code 7 = .ok (.if_icmp .ge 22, 3) := by decide +kernel
theorem d_Plc_valuesWithRegisters_29 : decode prog_4_method_12_code 29 = .ok (.iload_n 1, 1) := by decide +kernel
theorem d_Plc_valuesWithRegisters_30 : decode prog_4_method_12_code 30 = .ok (.ireturn, 1) := by decide +kernel
theorem d_Plc_valuesWithRegisters_10 : decode prog_4_method_12_code 10 = .ok (.aload_n 0, 1) := by decide +kernel
theorem d_Plc_valuesWithRegisters_11 : decode prog_4_method_12_code 11 = .ok (.getfield 22, 3) := by decide +kernel
theorem d_Plc_valuesWithRegisters_14 : decode prog_4_method_12_code 14 = .ok (.iload_n 2, 1) := by decide +kernel
theorem d_Plc_valuesWithRegisters_15 : decode prog_4_method_12_code 15 = .ok (.iaload, 1) := by decide +kernel
theorem d_Plc_valuesWithRegisters_16 : decode prog_4_method_12_code 16 = .ok (.iconst (-1), 1) := by decide +kernel
theorem d_Plc_valuesWithRegisters_17 : decode prog_4_method_12_code 17 = .ok (.if_icmp .eq 6, 3) := by decide +kernel
theorem d_Plc_valuesWithRegisters_23 : decode prog_4_method_12_code 23 = .ok (.iinc 2 1, 3) := by decide +kernel
theorem d_Plc_valuesWithRegisters_26 : decode prog_4_method_12_code 26 = .ok (.goto (-22), 3) := by decide +kernel
theorem d_Plc_valuesWithRegisters_20 : decode prog_4_method_12_code 20 = .ok (.iinc 1 1, 3) := by decide +kernel
set_option maxRecDepth 100000 in
set_option maxHeartbeats 4000000 in
theorem c_Plc_valuesWithRegisters {l : Launch} {dC : Nat → ClassId} {dI : Nat → Nat → Nat} {cI cZ : ClassId} {pl pf pa po pr ps pd ph pq wo wr : Nat} {fi la ov rg sl od rh sh : Nat → Int32} {sc : Int32}  : sm_I l y_Plc_valuesWithRegisters prog_4_method_12_code 3 (some .int) (rmF 0 0) (dC, dI) smC [(cI, .int), (cZ, .boolean)] [.ref pl] [(pl, .inr (2, [.ref pf, .ref pa, .ref po, .ref pr, .ref ps, .ref pd, .ref ph, .ref pq, .int (nI wo), .int (nI wr), .int sc])), (pf, .inl (cI, 24, .inl fi)), (pa, .inl (cI, 24, .inl la)), (po, .inl (cZ, 24, .inl ov)), (pr, .inl (cI, 24, .inl rg)), (ps, .inl (cI, 24, .inl sl)), (pd, .inl (cI, 24, .inl od)), (ph, .inl (cI, 8, .inl rh)), (pq, .inl (cI, 24, .inl sh))] (fun q w2 => q = (nI (cR rg 24 0 0)) ∧ w2 = [(pl, .inr (2, [.ref pf, .ref pa, .ref po, .ref pr, .ref ps, .ref pd, .ref ph, .ref pq, .int (nI wo), .int (nI wr), .int sc])), (pf, .inl (cI, 24, .inl fi)), (pa, .inl (cI, 24, .inl la)), (po, .inl (cZ, 24, .inl ov)), (pr, .inl (cI, 24, .inl rg)), (ps, .inl (cI, 24, .inl sl)), (pd, .inl (cI, 24, .inl od)), (ph, .inl (cI, 8, .inl rh)), (pq, .inl (cI, 24, .inl sh))]) := by
  refine sm_I.mk (by decide) (Nat.le_of_ble_eq_true rfl) ?_
  intro p e s m below meth c A H locs ls hx hb hr ht hown hlocks hml hnm hP hK hD hA hS hN hl
  have hl : lv_has ls 3 [(0, .ref pl)] := hl
  refine lv_iconst (v := 0) hx hb d_Plc_valuesWithRegisters_0 (by decide) ?_
  refine lv_istore_n (lv' := [(1, .int ((0 : Int32))), (0, .ref pl)]) hx hb d_Plc_valuesWithRegisters_1 rfl hl (by decide) rfl (fun ls hl => ?_)
  refine lv_iconst (v := 0) hx hb d_Plc_valuesWithRegisters_2 (by decide) ?_
  refine lv_istore_n (lv' := [(2, .int ((0 : Int32))), (1, .int ((0 : Int32))), (0, .ref pl)]) hx hb d_Plc_valuesWithRegisters_3 rfl hl (by decide) rfl (fun ls hl => ?_)
  have loop_4 : ∀ (N_4 : Nat) (q : Nat) (v : Nat) (cc2 : Nat), (q + v = 24) → (cR rg q v cc2 = cR rg 24 0 0) → q < N_4 → ∀ (H : Heap) (locs : List Loc), va_P (dC, dI) smC [(pl, .inr (2, [.ref pf, .ref pa, .ref po, .ref pr, .ref ps, .ref pd, .ref ph, .ref pq, .int (nI wo), .int (nI wr), .int sc])), (pf, .inl (cI, 24, .inl fi)), (pa, .inl (cI, 24, .inl la)), (po, .inl (cZ, 24, .inl ov)), (pr, .inl (cI, 24, .inl rg)), (ps, .inl (cI, 24, .inl sl)), (pd, .inl (cI, 24, .inl od)), (ph, .inl (cI, 8, .inl rh)), (pq, .inl (cI, 24, .inl sh))] H → va_D A [(pl, .inr (2, [.ref pf, .ref pa, .ref po, .ref pr, .ref ps, .ref pd, .ref ph, .ref pq, .int (nI wo), .int (nI wr), .int sc])), (pf, .inl (cI, 24, .inl fi)), (pa, .inl (cI, 24, .inl la)), (po, .inl (cZ, 24, .inl ov)), (pr, .inl (cI, 24, .inl rg)), (ps, .inl (cI, 24, .inl sl)), (pd, .inl (cI, 24, .inl od)), (ph, .inl (cI, 8, .inl rh)), (pq, .inl (cI, 24, .inl sh))] → va_S A s.heap H locs → ∀ ls : Array Slot, lv_has ls 3 [(0, .ref pl), (1, .int (nI cc2)), (2, .int (nI v))] → W p l e (rmF 0 0) s m ([.ref pl] : List Value).toArray below meth c H locs 0 0 (MQ below (va_Qi (fun q w2 => q = (nI (cR rg 24 0 0)) ∧ w2 = [(pl, .inr (2, [.ref pf, .ref pa, .ref po, .ref pr, .ref ps, .ref pd, .ref ph, .ref pq, .int (nI wo), .int (nI wr), .int sc])), (pf, .inl (cI, 24, .inl fi)), (pa, .inl (cI, 24, .inl la)), (po, .inl (cZ, 24, .inl ov)), (pr, .inl (cI, 24, .inl rg)), (ps, .inl (cI, 24, .inl sl)), (pd, .inl (cI, 24, .inl od)), (ph, .inl (cI, 8, .inl rh)), (pq, .inl (cI, 24, .inl sh))]) (sm_B (dC, dI) smC [(cI, .int), (cZ, .boolean)] A) A) ([.ref pl] : List Value).toArray s 0 0 A) (F0 m 4 ls []) := by
    intro N_4
    induction N_4 with
    | zero => intro q v cc2 _ _ z; exact absurd z (Nat.not_lt_zero _)
    | succ N_4 ih_4 =>
      intro q v cc2 hqv hv m_4 H locs hP hD hS ls hl
      refine lv_iload_n hx hb d_Plc_valuesWithRegisters_4 rfl (lv_at hl 2 rfl) ?_
      refine lv_bipush (v := 24) hx hb d_Plc_valuesWithRegisters_5 (by decide) ?_
      refine lv_icmp_ge (tgt := 29) hx hb d_Plc_valuesWithRegisters_7 (by decide) (fun c_7 => ?_) (fun c_7 => ?_)
      · skip
        have f_7 : 24 ≤ v := (nI_leI (a := 24) (b := v) (by first | omega | decide) (by first | omega | decide)).mp c_7
        obtain rfl : q = 0 := by omega
        refine lv_iload_n hx hb d_Plc_valuesWithRegisters_29 rfl (lv_at hl 1 rfl) ?_
        refine sm_ri (v := nI cc2) (ws := [(pl, .inr (2, [.ref pf, .ref pa, .ref po, .ref pr, .ref ps, .ref pd, .ref ph, .ref pq, .int (nI wo), .int (nI wr), .int sc])), (pf, .inl (cI, 24, .inl fi)), (pa, .inl (cI, 24, .inl la)), (po, .inl (cZ, 24, .inl ov)), (pr, .inl (cI, 24, .inl rg)), (ps, .inl (cI, 24, .inl sl)), (pd, .inl (cI, 24, .inl od)), (ph, .inl (cI, 8, .inl rh)), (pq, .inl (cI, 24, .inl sh))]) hx hb hr hlocks hK (hP.sub [0, 1, 2, 3, 4, 5, 6, 7, 8] rfl) (hD.sub [0, 1, 2, 3, 4, 5, 6, 7, 8] (by decide) rfl) hS ?_ d_Plc_valuesWithRegisters_30
        exact ⟨by rw [← hv]; rfl, rfl⟩
      · skip
        have f_7 : ¬ 24 ≤ v := fun z => c_7 ((nI_leI (a := 24) (b := v) (by first | omega | decide) (by first | omega | decide)).mpr z)
        obtain ⟨q1, rfl⟩ : ∃ z, q = z + 1 := ⟨q - 1, by omega⟩
        refine lv_aload_n hx hb d_Plc_valuesWithRegisters_10 rfl (lv_at hl 0 rfl) ?_
        refine va_get (D := (dC, dI)) (ci := 2) (v := .ref pr) (C := R_Plc) (T := T_Plc) (N := 11) hx hb ht i_Plc hown hK hP 0 rfl rfl 3 (by decide) (ht _ mw_68) (fun _ h9 => h9) rfl d_Plc_valuesWithRegisters_11 ?_
        refine lv_iload_n hx hb d_Plc_valuesWithRegisters_14 rfl (lv_at hl 2 rfl) ?_
        refine sm_iald (j := v) hx hb hK hP 4 0 rfl rfl (vp_in_nI (by first | omega | assumption) (by first | decide | omega)) (nI_clamp (by first | omega | (have := sm_lt31; omega))) d_Plc_valuesWithRegisters_15 ?_
        refine lv_iconst (v := -1) hx hb d_Plc_valuesWithRegisters_16 (by decide) ?_
        refine lv_icmp_eq (tgt := 23) hx hb d_Plc_valuesWithRegisters_17 (by decide) (fun c_17 => ?_) (fun c_17 => ?_)
        · skip
          refine lv_iinc (v := nI (v + 1)) (lv' := [(2, .int (nI (v + 1))), (0, .ref pl), (1, .int (nI cc2))]) hx hb d_Plc_valuesWithRegisters_23 hl (k := 2) rfl (nI_add v 1) (by decide) rfl (fun ls hl => ?_)
          refine lv_goto (tgt := 4) hx hb d_Plc_valuesWithRegisters_26 (by decide) ?_
          exact ih_4 q1 (v + 1) cc2 (by omega) (by rw [← hv, cR]; simp only [if_pos c_17]) (by omega) _ _ (hP.sub [0, 1, 2, 3, 4, 5, 6, 7, 8] rfl) (hD.sub [0, 1, 2, 3, 4, 5, 6, 7, 8] (by decide) rfl) hS _ (lv_sub hl [1, 2, 0] rfl)
        · skip
          refine lv_iinc (v := nI (cc2 + 1)) (lv' := [(1, .int (nI (cc2 + 1))), (0, .ref pl), (2, .int (nI v))]) hx hb d_Plc_valuesWithRegisters_20 hl (k := 1) rfl (nI_add cc2 1) (by decide) rfl (fun ls hl => ?_)
          refine lv_iinc (v := nI (v + 1)) (lv' := [(2, .int (nI (v + 1))), (1, .int (nI (cc2 + 1))), (0, .ref pl)]) hx hb d_Plc_valuesWithRegisters_23 hl (k := 2) rfl (nI_add v 1) (by decide) rfl (fun ls hl => ?_)
          refine lv_goto (tgt := 4) hx hb d_Plc_valuesWithRegisters_26 (by decide) ?_
          exact ih_4 q1 (v + 1) (cc2 + 1) (by omega) (by rw [← hv, cR]; simp only [if_neg c_17]) (by omega) _ _ (hP.sub [0, 1, 2, 3, 4, 5, 6, 7, 8] rfl) (hD.sub [0, 1, 2, 3, 4, 5, 6, 7, 8] (by decide) rfl) hS _ (lv_sub hl [2, 1, 0] rfl)
  exact loop_4 25 24 0 0 rfl rfl (by decide) _ _ (hP.sub [0, 1, 2, 3, 4, 5, 6, 7, 8] rfl) (hD.sub [0, 1, 2, 3, 4, 5, 6, 7, 8] (by decide) rfl) hS _ (lv_sub hl [2, 1, 0] rfl)
abbrev y_Plc_takeRegister : MethodName := ⟨"ScanMill$Places", "takeRegister", "(II)V"⟩
theorem d_Plc_takeRegister_0 : decode prog_4_method_20_code 0 = .ok (.aload_n 0, 1) := by decide +kernel
theorem d_Plc_takeRegister_1 : decode prog_4_method_20_code 1 = .ok (.getfield 31, 3) := by decide +kernel
theorem mw_71 : Cond.fieldLink "ScanMill$Places" 31 "ScanMill$Places" "registerHolders" "[I" ∈ wG := wG_t 71 (by decide +kernel) (by decide +kernel)
theorem d_Plc_takeRegister_4 : decode prog_4_method_20_code 4 = .ok (.iload_n 2, 1) := by decide +kernel
theorem d_Plc_takeRegister_5 : decode prog_4_method_20_code 5 = .ok (.iload_n 1, 1) := by decide +kernel
theorem d_Plc_takeRegister_6 : decode prog_4_method_20_code 6 = .ok (.iastore, 1) := by decide +kernel
theorem d_Plc_takeRegister_7 : decode prog_4_method_20_code 7 = .ok (.aload_n 0, 1) := by decide +kernel
theorem d_Plc_takeRegister_8 : decode prog_4_method_20_code 8 = .ok (.getfield 22, 3) := by decide +kernel
theorem d_Plc_takeRegister_11 : decode prog_4_method_20_code 11 = .ok (.iload_n 1, 1) := by decide +kernel
theorem d_Plc_takeRegister_12 : decode prog_4_method_20_code 12 = .ok (.iload_n 2, 1) := by decide +kernel
theorem d_Plc_takeRegister_13 : decode prog_4_method_20_code 13 = .ok (.iastore, 1) := by decide +kernel
theorem d_Plc_takeRegister_14 : decode prog_4_method_20_code 14 = .ok (.return_, 1) := by decide +kernel
set_option maxRecDepth 100000 in
set_option maxHeartbeats 4000000 in
theorem c_Plc_takeRegister {l : Launch} {dC : Nat → ClassId} {dI : Nat → Nat → Nat} {cI cZ : ClassId} {pl pf pa po pr ps pd ph pq wo wr : Nat} {fi la ov rg sl od rh sh : Nat → Int32} {sc : Int32} {x gg : Int32} (hx1 : inB x 24 = true) (hg1 : inB gg 8 = true) : sm_V l y_Plc_takeRegister prog_4_method_20_code 3 none (rmF 0 0) (dC, dI) smC [(cI, .int), (cZ, .boolean)] [.ref pl, .int x, .int gg] [(pl, .inr (2, [.ref pf, .ref pa, .ref po, .ref pr, .ref ps, .ref pd, .ref ph, .ref pq, .int (nI wo), .int (nI wr), .int sc])), (pf, .inl (cI, 24, .inl fi)), (pa, .inl (cI, 24, .inl la)), (po, .inl (cZ, 24, .inl ov)), (pr, .inl (cI, 24, .inl rg)), (ps, .inl (cI, 24, .inl sl)), (pd, .inl (cI, 24, .inl od)), (ph, .inl (cI, 8, .inl rh)), (pq, .inl (cI, 24, .inl sh))] (fun w2 => w2 = [(pl, .inr (2, [.ref pf, .ref pa, .ref po, .ref pr, .ref ps, .ref pd, .ref ph, .ref pq, .int (nI wo), .int (nI wr), .int sc])), (pf, .inl (cI, 24, .inl fi)), (pa, .inl (cI, 24, .inl la)), (po, .inl (cZ, 24, .inl ov)), (pr, .inl (cI, 24, .inl (upd rg x.toNatClampNeg gg))), (ps, .inl (cI, 24, .inl sl)), (pd, .inl (cI, 24, .inl od)), (ph, .inl (cI, 8, .inl (upd rh gg.toNatClampNeg x))), (pq, .inl (cI, 24, .inl sh))]) := by
  refine sm_V.mk (by decide) (Nat.le_of_ble_eq_true rfl) ?_
  intro p e s m below meth c A H locs ls hx hb hr ht hown hlocks hml hnm hP hK hD hA hS hN hl
  have hl : lv_has ls 3 [(0, .ref pl), (1, .int x), (2, .int gg)] := hl
  refine lv_aload_n hx hb d_Plc_takeRegister_0 rfl (lv_at hl 0 rfl) ?_
  refine va_get (D := (dC, dI)) (ci := 2) (v := .ref ph) (C := R_Plc) (T := T_Plc) (N := 11) hx hb ht i_Plc hown hK hP 0 rfl rfl 6 (by decide) (ht _ mw_71) (fun _ h9 => h9) rfl d_Plc_takeRegister_1 ?_
  refine lv_iload_n hx hb d_Plc_takeRegister_4 rfl (lv_at hl 2 rfl) ?_
  refine lv_iload_n hx hb d_Plc_takeRegister_5 rfl (lv_at hl 1 rfl) ?_
  refine sm_iast (j := gg.toNatClampNeg) hx hb hK hP hD hS 7 0 rfl rfl (sm_inB hg1) rfl d_Plc_takeRegister_6 (fun H locs hP hD hS => ?_)
  have hP : va_P (dC, dI) smC [(pl, .inr (2, [.ref pf, .ref pa, .ref po, .ref pr, .ref ps, .ref pd, .ref ph, .ref pq, .int (nI wo), .int (nI wr), .int sc])), (pf, .inl (cI, 24, .inl fi)), (pa, .inl (cI, 24, .inl la)), (po, .inl (cZ, 24, .inl ov)), (pr, .inl (cI, 24, .inl rg)), (ps, .inl (cI, 24, .inl sl)), (pd, .inl (cI, 24, .inl od)), (ph, .inl (cI, 8, .inl (upd rh gg.toNatClampNeg x))), (pq, .inl (cI, 24, .inl sh))] H := hP
  have hD : va_D A [(pl, .inr (2, [.ref pf, .ref pa, .ref po, .ref pr, .ref ps, .ref pd, .ref ph, .ref pq, .int (nI wo), .int (nI wr), .int sc])), (pf, .inl (cI, 24, .inl fi)), (pa, .inl (cI, 24, .inl la)), (po, .inl (cZ, 24, .inl ov)), (pr, .inl (cI, 24, .inl rg)), (ps, .inl (cI, 24, .inl sl)), (pd, .inl (cI, 24, .inl od)), (ph, .inl (cI, 8, .inl (upd rh gg.toNatClampNeg x))), (pq, .inl (cI, 24, .inl sh))] := hD
  refine lv_aload_n hx hb d_Plc_takeRegister_7 rfl (lv_at hl 0 rfl) ?_
  refine va_get (D := (dC, dI)) (ci := 2) (v := .ref pr) (C := R_Plc) (T := T_Plc) (N := 11) hx hb ht i_Plc hown hK hP 0 rfl rfl 3 (by decide) (ht _ mw_68) (fun _ h9 => h9) rfl d_Plc_takeRegister_8 ?_
  refine lv_iload_n hx hb d_Plc_takeRegister_11 rfl (lv_at hl 1 rfl) ?_
  refine lv_iload_n hx hb d_Plc_takeRegister_12 rfl (lv_at hl 2 rfl) ?_
  refine sm_iast (j := x.toNatClampNeg) hx hb hK hP hD hS 4 0 rfl rfl (sm_inB hx1) rfl d_Plc_takeRegister_13 (fun H locs hP hD hS => ?_)
  have hP : va_P (dC, dI) smC [(pl, .inr (2, [.ref pf, .ref pa, .ref po, .ref pr, .ref ps, .ref pd, .ref ph, .ref pq, .int (nI wo), .int (nI wr), .int sc])), (pf, .inl (cI, 24, .inl fi)), (pa, .inl (cI, 24, .inl la)), (po, .inl (cZ, 24, .inl ov)), (pr, .inl (cI, 24, .inl (upd rg x.toNatClampNeg gg))), (ps, .inl (cI, 24, .inl sl)), (pd, .inl (cI, 24, .inl od)), (ph, .inl (cI, 8, .inl (upd rh gg.toNatClampNeg x))), (pq, .inl (cI, 24, .inl sh))] H := hP
  have hD : va_D A [(pl, .inr (2, [.ref pf, .ref pa, .ref po, .ref pr, .ref ps, .ref pd, .ref ph, .ref pq, .int (nI wo), .int (nI wr), .int sc])), (pf, .inl (cI, 24, .inl fi)), (pa, .inl (cI, 24, .inl la)), (po, .inl (cZ, 24, .inl ov)), (pr, .inl (cI, 24, .inl (upd rg x.toNatClampNeg gg))), (ps, .inl (cI, 24, .inl sl)), (pd, .inl (cI, 24, .inl od)), (ph, .inl (cI, 8, .inl (upd rh gg.toNatClampNeg x))), (pq, .inl (cI, 24, .inl sh))] := hD
  refine sm_rv (ws := [(pl, .inr (2, [.ref pf, .ref pa, .ref po, .ref pr, .ref ps, .ref pd, .ref ph, .ref pq, .int (nI wo), .int (nI wr), .int sc])), (pf, .inl (cI, 24, .inl fi)), (pa, .inl (cI, 24, .inl la)), (po, .inl (cZ, 24, .inl ov)), (pr, .inl (cI, 24, .inl (upd rg x.toNatClampNeg gg))), (ps, .inl (cI, 24, .inl sl)), (pd, .inl (cI, 24, .inl od)), (ph, .inl (cI, 8, .inl (upd rh gg.toNatClampNeg x))), (pq, .inl (cI, 24, .inl sh))]) hx hb hr hlocks hK (hP.sub [0, 1, 2, 3, 4, 5, 6, 7, 8] rfl) (hD.sub [0, 1, 2, 3, 4, 5, 6, 7, 8] (by decide) rfl) hS ?_ d_Plc_takeRegister_14
  rfl
abbrev y_Plc_note : MethodName := ⟨"ScanMill$Places", "note", "(II)V"⟩
theorem d_Plc_note_0 : decode prog_4_method_15_code 0 = .ok (.iload_n 1, 1) := by decide +kernel
theorem d_Plc_note_1 : decode prog_4_method_15_code 1 = .ok (.invokestatic 68, 3) := by decide +kernel
theorem d_Plc_note_4 : decode prog_4_method_15_code 4 = .ok (.ifCond .ne 4, 3) := by decide +kernel
theorem d_Plc_note_8 : decode prog_4_method_15_code 8 = .ok (.aload_n 0, 1) := by decide +kernel
theorem d_Plc_note_9 : decode prog_4_method_15_code 9 = .ok (.getfield 15, 3) := by decide +kernel
theorem d_Plc_note_12 : decode prog_4_method_15_code 12 = .ok (.iload_n 1, 1) := by decide +kernel
theorem d_Plc_note_13 : decode prog_4_method_15_code 13 = .ok (.iaload, 1) := by decide +kernel
theorem d_Plc_note_14 : decode prog_4_method_15_code 14 = .ok (.bipush (-2), 2) := by decide +kernel
theorem d_Plc_note_16 : decode prog_4_method_15_code 16 = .ok (.if_icmp .ne 10, 3) := by decide +kernel
theorem d_Plc_note_26 : decode prog_4_method_15_code 26 = .ok (.aload_n 0, 1) := by decide +kernel
theorem d_Plc_note_27 : decode prog_4_method_15_code 27 = .ok (.getfield 15, 3) := by decide +kernel
theorem d_Plc_note_30 : decode prog_4_method_15_code 30 = .ok (.iload_n 1, 1) := by decide +kernel
theorem d_Plc_note_31 : decode prog_4_method_15_code 31 = .ok (.iload_n 2, 1) := by decide +kernel
theorem d_Plc_note_32 : decode prog_4_method_15_code 32 = .ok (.iastore, 1) := by decide +kernel
theorem d_Plc_note_33 : decode prog_4_method_15_code 33 = .ok (.return_, 1) := by decide +kernel
theorem d_Plc_note_19 : decode prog_4_method_15_code 19 = .ok (.aload_n 0, 1) := by decide +kernel
theorem d_Plc_note_20 : decode prog_4_method_15_code 20 = .ok (.getfield 9, 3) := by decide +kernel
theorem d_Plc_note_23 : decode prog_4_method_15_code 23 = .ok (.iload_n 1, 1) := by decide +kernel
theorem d_Plc_note_24 : decode prog_4_method_15_code 24 = .ok (.iload_n 2, 1) := by decide +kernel
theorem d_Plc_note_25 : decode prog_4_method_15_code 25 = .ok (.iastore, 1) := by decide +kernel
set_option maxRecDepth 100000 in
set_option maxHeartbeats 4000000 in
theorem c_Plc_note {l : Launch} {dC : Nat → ClassId} {dI : Nat → Nat → Nat} {cI cZ : ClassId} {pl pf pa po pr ps pd ph pq wo wr : Nat} {fi la ov rg sl od rh sh : Nat → Int32} {sc : Int32} {j : Nat} {t : Int32} (hj : j < 24) : sm_V l y_Plc_note prog_4_method_15_code 3 none (rmF 1 20) (dC, dI) smC [(cI, .int), (cZ, .boolean)] [.ref pl, .int (nI j), .int t] [(pl, .inr (2, [.ref pf, .ref pa, .ref po, .ref pr, .ref ps, .ref pd, .ref ph, .ref pq, .int (nI wo), .int (nI wr), .int sc])), (pf, .inl (cI, 24, .inl fi)), (pa, .inl (cI, 24, .inl la)), (po, .inl (cZ, 24, .inl ov)), (pr, .inl (cI, 24, .inl rg)), (ps, .inl (cI, 24, .inl sl)), (pd, .inl (cI, 24, .inl od)), (ph, .inl (cI, 8, .inl rh)), (pq, .inl (cI, 24, .inl sh))] (fun w2 => w2 = [(pl, .inr (2, [.ref pf, .ref pa, .ref po, .ref pr, .ref ps, .ref pd, .ref ph, .ref pq, .int (nI wo), .int (nI wr), .int sc])), (pf, .inl (cI, 24, .inl (nF fi la j t))), (pa, .inl (cI, 24, .inl (upd la j t))), (po, .inl (cZ, 24, .inl ov)), (pr, .inl (cI, 24, .inl rg)), (ps, .inl (cI, 24, .inl sl)), (pd, .inl (cI, 24, .inl od)), (ph, .inl (cI, 8, .inl rh)), (pq, .inl (cI, 24, .inl sh))]) := by
  refine sm_V.mk (by decide) (Nat.le_of_ble_eq_true rfl) ?_
  intro p e s m below meth c A H locs ls hx hb hr ht hown hlocks hml hnm hP hK hD hA hS hN hl
  have hl : lv_has ls 3 [(0, .ref pl), (1, .int (nI j)), (2, .int t)] := hl
  refine lv_iload_n hx hb d_Plc_note_0 rfl (lv_at hl 1 rfl) ?_
  refine sm_goi (wc := []) (wr := [(pl, .inr (2, [.ref pf, .ref pa, .ref po, .ref pr, .ref ps, .ref pd, .ref ph, .ref pq, .int (nI wo), .int (nI wr), .int sc])), (pf, .inl (cI, 24, .inl fi)), (pa, .inl (cI, 24, .inl la)), (po, .inl (cZ, 24, .inl ov)), (pr, .inl (cI, 24, .inl rg)), (ps, .inl (cI, 24, .inl sl)), (pd, .inl (cI, 24, .inl od)), (ph, .inl (cI, 8, .inl rh)), (pq, .inl (cI, 24, .inl sh))]) (va_runSN (As := [.int (nI j)]) (rest := []) ⟨hx, hb, hml, hown, ht⟩ ((c_Mill_isValue (l := l) (dC := dC) (dI := dI) (cI := cI) (cZ := cZ) (v := nI j) ).at H.size) (sm_cN 1 ht mw_163 mw_1 hN.2.2.2 mw_162 rfl rfl (by decide +kernel) ⟨Nat.le_of_ble_eq_true rfl, Nat.le_of_ble_eq_true rfl⟩) (sm_preS hN hK hP hD [] rfl rfl (by decide)) rfl rfl hl.1 rfl (lv_room (Nat.le_of_ble_eq_true rfl)) d_Plc_note_1 ⟨Nat.zero_le _, Nat.zero_le _⟩) hP hD hS hA [] [0, 1, 2, 3, 4, 5, 6, 7, 8] rfl rfl (by decide) (by decide) (fun r_1 w_1 H locs q_1 hP hD hS => ?_)
  obtain ⟨rfl, rfl⟩ := q_1
  have hP : va_P (dC, dI) smC [(pl, .inr (2, [.ref pf, .ref pa, .ref po, .ref pr, .ref ps, .ref pd, .ref ph, .ref pq, .int (nI wo), .int (nI wr), .int sc])), (pf, .inl (cI, 24, .inl fi)), (pa, .inl (cI, 24, .inl la)), (po, .inl (cZ, 24, .inl ov)), (pr, .inl (cI, 24, .inl rg)), (ps, .inl (cI, 24, .inl sl)), (pd, .inl (cI, 24, .inl od)), (ph, .inl (cI, 8, .inl rh)), (pq, .inl (cI, 24, .inl sh))] H := hP
  have hD : va_D A [(pl, .inr (2, [.ref pf, .ref pa, .ref po, .ref pr, .ref ps, .ref pd, .ref ph, .ref pq, .int (nI wo), .int (nI wr), .int sc])), (pf, .inl (cI, 24, .inl fi)), (pa, .inl (cI, 24, .inl la)), (po, .inl (cZ, 24, .inl ov)), (pr, .inl (cI, 24, .inl rg)), (ps, .inl (cI, 24, .inl sl)), (pd, .inl (cI, 24, .inl od)), (ph, .inl (cI, 8, .inl rh)), (pq, .inl (cI, 24, .inl sh))] := hD
  refine lv_if_ne (tgt := 8) hx hb d_Plc_note_4 (by decide) (fun c_4 => ?_) (fun c_4 => ?_)
  · skip
    have e_4 : (inB (nI j) 24) = true := b2i_ne0 c_4
    refine lv_aload_n hx hb d_Plc_note_8 rfl (lv_at hl 0 rfl) ?_
    refine va_get (D := (dC, dI)) (ci := 2) (v := .ref pa) (C := R_Plc) (T := T_Plc) (N := 11) hx hb ht i_Plc hown hK hP 0 rfl rfl 1 (by decide) (ht _ mw_66) (fun _ h9 => h9) rfl d_Plc_note_9 ?_
    refine lv_iload_n hx hb d_Plc_note_12 rfl (lv_at hl 1 rfl) ?_
    refine sm_iald (j := j) hx hb hK hP 2 0 rfl rfl (vp_in_nI (by first | omega | assumption) (by first | decide | omega)) (nI_clamp (by first | omega | (have := sm_lt31; omega))) d_Plc_note_13 ?_
    refine lv_bipush (v := -2) hx hb d_Plc_note_14 (by decide) ?_
    refine lv_icmp_ne (tgt := 26) hx hb d_Plc_note_16 (by decide) (fun c_16 => ?_) (fun c_16 => ?_)
    · skip
      refine lv_aload_n hx hb d_Plc_note_26 rfl (lv_at hl 0 rfl) ?_
      refine va_get (D := (dC, dI)) (ci := 2) (v := .ref pa) (C := R_Plc) (T := T_Plc) (N := 11) hx hb ht i_Plc hown hK hP 0 rfl rfl 1 (by decide) (ht _ mw_66) (fun _ h9 => h9) rfl d_Plc_note_27 ?_
      refine lv_iload_n hx hb d_Plc_note_30 rfl (lv_at hl 1 rfl) ?_
      refine lv_iload_n hx hb d_Plc_note_31 rfl (lv_at hl 2 rfl) ?_
      refine sm_iast (j := j) hx hb hK hP hD hS 2 0 rfl rfl (vp_in_nI (by first | omega | assumption) (by first | decide | omega)) (nI_clamp (by first | omega | (have := sm_lt31; omega))) d_Plc_note_32 (fun H locs hP hD hS => ?_)
      have hP : va_P (dC, dI) smC [(pl, .inr (2, [.ref pf, .ref pa, .ref po, .ref pr, .ref ps, .ref pd, .ref ph, .ref pq, .int (nI wo), .int (nI wr), .int sc])), (pf, .inl (cI, 24, .inl fi)), (pa, .inl (cI, 24, .inl (upd la j t))), (po, .inl (cZ, 24, .inl ov)), (pr, .inl (cI, 24, .inl rg)), (ps, .inl (cI, 24, .inl sl)), (pd, .inl (cI, 24, .inl od)), (ph, .inl (cI, 8, .inl rh)), (pq, .inl (cI, 24, .inl sh))] H := hP
      have hD : va_D A [(pl, .inr (2, [.ref pf, .ref pa, .ref po, .ref pr, .ref ps, .ref pd, .ref ph, .ref pq, .int (nI wo), .int (nI wr), .int sc])), (pf, .inl (cI, 24, .inl fi)), (pa, .inl (cI, 24, .inl (upd la j t))), (po, .inl (cZ, 24, .inl ov)), (pr, .inl (cI, 24, .inl rg)), (ps, .inl (cI, 24, .inl sl)), (pd, .inl (cI, 24, .inl od)), (ph, .inl (cI, 8, .inl rh)), (pq, .inl (cI, 24, .inl sh))] := hD
      refine sm_rv (ws := [(pl, .inr (2, [.ref pf, .ref pa, .ref po, .ref pr, .ref ps, .ref pd, .ref ph, .ref pq, .int (nI wo), .int (nI wr), .int sc])), (pf, .inl (cI, 24, .inl fi)), (pa, .inl (cI, 24, .inl (upd la j t))), (po, .inl (cZ, 24, .inl ov)), (pr, .inl (cI, 24, .inl rg)), (ps, .inl (cI, 24, .inl sl)), (pd, .inl (cI, 24, .inl od)), (ph, .inl (cI, 8, .inl rh)), (pq, .inl (cI, 24, .inl sh))]) hx hb hr hlocks hK (hP.sub [0, 1, 2, 3, 4, 5, 6, 7, 8] rfl) (hD.sub [0, 1, 2, 3, 4, 5, 6, 7, 8] (by decide) rfl) hS ?_ d_Plc_note_33
      show _ = _
      first | (rw [nF, if_pos c_16]) | (rw [nF, if_neg c_16])
    · skip
      refine lv_aload_n hx hb d_Plc_note_19 rfl (lv_at hl 0 rfl) ?_
      refine va_get (D := (dC, dI)) (ci := 2) (v := .ref pf) (C := R_Plc) (T := T_Plc) (N := 11) hx hb ht i_Plc hown hK hP 0 rfl rfl 0 (by decide) (ht _ mw_65) (fun _ h9 => h9) rfl d_Plc_note_20 ?_
      refine lv_iload_n hx hb d_Plc_note_23 rfl (lv_at hl 1 rfl) ?_
      refine lv_iload_n hx hb d_Plc_note_24 rfl (lv_at hl 2 rfl) ?_
      refine sm_iast (j := j) hx hb hK hP hD hS 1 0 rfl rfl (vp_in_nI (by first | omega | assumption) (by first | decide | omega)) (nI_clamp (by first | omega | (have := sm_lt31; omega))) d_Plc_note_25 (fun H locs hP hD hS => ?_)
      have hP : va_P (dC, dI) smC [(pl, .inr (2, [.ref pf, .ref pa, .ref po, .ref pr, .ref ps, .ref pd, .ref ph, .ref pq, .int (nI wo), .int (nI wr), .int sc])), (pf, .inl (cI, 24, .inl (upd fi j t))), (pa, .inl (cI, 24, .inl la)), (po, .inl (cZ, 24, .inl ov)), (pr, .inl (cI, 24, .inl rg)), (ps, .inl (cI, 24, .inl sl)), (pd, .inl (cI, 24, .inl od)), (ph, .inl (cI, 8, .inl rh)), (pq, .inl (cI, 24, .inl sh))] H := hP
      have hD : va_D A [(pl, .inr (2, [.ref pf, .ref pa, .ref po, .ref pr, .ref ps, .ref pd, .ref ph, .ref pq, .int (nI wo), .int (nI wr), .int sc])), (pf, .inl (cI, 24, .inl (upd fi j t))), (pa, .inl (cI, 24, .inl la)), (po, .inl (cZ, 24, .inl ov)), (pr, .inl (cI, 24, .inl rg)), (ps, .inl (cI, 24, .inl sl)), (pd, .inl (cI, 24, .inl od)), (ph, .inl (cI, 8, .inl rh)), (pq, .inl (cI, 24, .inl sh))] := hD
      refine lv_aload_n hx hb d_Plc_note_26 rfl (lv_at hl 0 rfl) ?_
      refine va_get (D := (dC, dI)) (ci := 2) (v := .ref pa) (C := R_Plc) (T := T_Plc) (N := 11) hx hb ht i_Plc hown hK hP 0 rfl rfl 1 (by decide) (ht _ mw_66) (fun _ h9 => h9) rfl d_Plc_note_27 ?_
      refine lv_iload_n hx hb d_Plc_note_30 rfl (lv_at hl 1 rfl) ?_
      refine lv_iload_n hx hb d_Plc_note_31 rfl (lv_at hl 2 rfl) ?_
      refine sm_iast (j := j) hx hb hK hP hD hS 2 0 rfl rfl (vp_in_nI (by first | omega | assumption) (by first | decide | omega)) (nI_clamp (by first | omega | (have := sm_lt31; omega))) d_Plc_note_32 (fun H locs hP hD hS => ?_)
      have hP : va_P (dC, dI) smC [(pl, .inr (2, [.ref pf, .ref pa, .ref po, .ref pr, .ref ps, .ref pd, .ref ph, .ref pq, .int (nI wo), .int (nI wr), .int sc])), (pf, .inl (cI, 24, .inl (upd fi j t))), (pa, .inl (cI, 24, .inl (upd la j t))), (po, .inl (cZ, 24, .inl ov)), (pr, .inl (cI, 24, .inl rg)), (ps, .inl (cI, 24, .inl sl)), (pd, .inl (cI, 24, .inl od)), (ph, .inl (cI, 8, .inl rh)), (pq, .inl (cI, 24, .inl sh))] H := hP
      have hD : va_D A [(pl, .inr (2, [.ref pf, .ref pa, .ref po, .ref pr, .ref ps, .ref pd, .ref ph, .ref pq, .int (nI wo), .int (nI wr), .int sc])), (pf, .inl (cI, 24, .inl (upd fi j t))), (pa, .inl (cI, 24, .inl (upd la j t))), (po, .inl (cZ, 24, .inl ov)), (pr, .inl (cI, 24, .inl rg)), (ps, .inl (cI, 24, .inl sl)), (pd, .inl (cI, 24, .inl od)), (ph, .inl (cI, 8, .inl rh)), (pq, .inl (cI, 24, .inl sh))] := hD
      refine sm_rv (ws := [(pl, .inr (2, [.ref pf, .ref pa, .ref po, .ref pr, .ref ps, .ref pd, .ref ph, .ref pq, .int (nI wo), .int (nI wr), .int sc])), (pf, .inl (cI, 24, .inl (upd fi j t))), (pa, .inl (cI, 24, .inl (upd la j t))), (po, .inl (cZ, 24, .inl ov)), (pr, .inl (cI, 24, .inl rg)), (ps, .inl (cI, 24, .inl sl)), (pd, .inl (cI, 24, .inl od)), (ph, .inl (cI, 8, .inl rh)), (pq, .inl (cI, 24, .inl sh))]) hx hb hr hlocks hK (hP.sub [0, 1, 2, 3, 4, 5, 6, 7, 8] rfl) (hD.sub [0, 1, 2, 3, 4, 5, 6, 7, 8] (by decide) rfl) hS ?_ d_Plc_note_33
      show _ = _
      first | (rw [nF, if_pos c_16]) | (rw [nF, if_neg c_16])
  · skip
    have e_4 : (inB (nI j) 24) = false := b2i_eq0 c_4
    exact absurd e_4 (by rw [inB_nI (by omega), decide_eq_true hj]; decide)
abbrev y_Plc_findTimes : MethodName := ⟨"ScanMill$Places", "findTimes", "(LScanMill$Row;LScanMill$Liveness;)V"⟩
theorem d_Plc_findTimes_0 : decode prog_4_method_14_code 0 = .ok (.iconst 0, 1) := by decide +kernel
theorem d_Plc_findTimes_1 : decode prog_4_method_14_code 1 = .ok (.istore_n 3, 1) := by decide +kernel
theorem d_Plc_findTimes_2 : decode prog_4_method_14_code 2 = .ok (.iload_n 3, 1) := by decide +kernel
theorem d_Plc_findTimes_3 : decode prog_4_method_14_code 3 = .ok (.bipush 24, 2) := by decide +kernel
theorem d_Plc_findTimes_5 : decode prog_4_method_14_code 5 = .ok (.if_icmp .ge 82, 3) := by decide +kernel
theorem d_Plc_findTimes_87 : decode prog_4_method_14_code 87 = .ok (.return_, 1) := by decide +kernel
theorem d_Plc_findTimes_23 : decode prog_4_method_14_code 23 = .ok (.iconst 0, 1) := by decide +kernel
theorem d_Plc_findTimes_24 : decode prog_4_method_14_code 24 = .ok (.istore 4, 2) := by decide +kernel
theorem d_Plc_findTimes_26 : decode prog_4_method_14_code 26 = .ok (.iload 4, 2) := by decide +kernel
theorem d_Plc_findTimes_28 : decode prog_4_method_14_code 28 = .ok (.aload_n 1, 1) := by decide +kernel
theorem d_Plc_findTimes_29 : decode prog_4_method_14_code 29 = .ok (.invokevirtual 97, 3) := by decide +kernel
theorem mw_273 : Cond.methodLink "ScanMill$Places" 97 ⟨"ScanMill$Row", "size", "()I"⟩ ∈ wG := wG_t 273 (by decide +kernel) (by decide +kernel)
theorem d_Plc_findTimes_32 : decode prog_4_method_14_code 32 = .ok (.if_icmp .ge 49, 3) := by decide +kernel
theorem d_Plc_findTimes_81 : decode prog_4_method_14_code 81 = .ok (.iinc 3 1, 3) := by decide +kernel
theorem d_Plc_findTimes_84 : decode prog_4_method_14_code 84 = .ok (.goto (-82), 3) := by decide +kernel
theorem d_Plc_findTimes_35 : decode prog_4_method_14_code 35 = .ok (.aload_n 2, 1) := by decide +kernel
theorem d_Plc_findTimes_36 : decode prog_4_method_14_code 36 = .ok (.iload 4, 2) := by decide +kernel
theorem d_Plc_findTimes_38 : decode prog_4_method_14_code 38 = .ok (.iload_n 3, 1) := by decide +kernel
theorem d_Plc_findTimes_39 : decode prog_4_method_14_code 39 = .ok (.invokevirtual 87, 3) := by decide +kernel
theorem mw_267 : Cond.code ⟨"ScanMill$Liveness", "has", "(II)Z"⟩ prog_2_method_3_code 3 (Option.some FieldType.boolean) ∈ wG := wG_t 267 (by decide +kernel) (by decide +kernel)
theorem mw_264 : Cond.methodLink "ScanMill$Places" 87 ⟨"ScanMill$Liveness", "has", "(II)Z"⟩ ∈ wG := wG_t 264 (by decide +kernel) (by decide +kernel)
theorem mw_265 : Cond.instanceMethod ⟨"ScanMill$Liveness", "has", "(II)Z"⟩ ∈ wG := wG_t 265 (by decide +kernel) (by decide +kernel)
theorem mw_266 : Cond.selects "ScanMill$Liveness" ⟨"ScanMill$Liveness", "has", "(II)Z"⟩ ⟨"ScanMill$Liveness", "has", "(II)Z"⟩ ∈ wG := wG_t 266 (by decide +kernel) (by decide +kernel)
theorem d_Plc_findTimes_42 : decode prog_4_method_14_code 42 = .ok (.ifCond .eq 12, 3) := by decide +kernel
theorem d_Plc_findTimes_54 : decode prog_4_method_14_code 54 = .ok (.aload_n 1, 1) := by decide +kernel
theorem d_Plc_findTimes_55 : decode prog_4_method_14_code 55 = .ok (.iload 4, 2) := by decide +kernel
theorem d_Plc_findTimes_57 : decode prog_4_method_14_code 57 = .ok (.invokevirtual 103, 3) := by decide +kernel
theorem mw_274 : Cond.methodLink "ScanMill$Places" 103 ⟨"ScanMill$Row", "setAt", "(I)I"⟩ ∈ wG := wG_t 274 (by decide +kernel) (by decide +kernel)
theorem d_Plc_findTimes_60 : decode prog_4_method_14_code 60 = .ok (.iload_n 3, 1) := by decide +kernel
theorem d_Plc_findTimes_61 : decode prog_4_method_14_code 61 = .ok (.if_icmp .ne 14, 3) := by decide +kernel
theorem d_Plc_findTimes_75 : decode prog_4_method_14_code 75 = .ok (.iinc 4 1, 3) := by decide +kernel
theorem d_Plc_findTimes_78 : decode prog_4_method_14_code 78 = .ok (.goto (-52), 3) := by decide +kernel
theorem d_Plc_findTimes_64 : decode prog_4_method_14_code 64 = .ok (.aload_n 0, 1) := by decide +kernel
theorem d_Plc_findTimes_65 : decode prog_4_method_14_code 65 = .ok (.iload_n 3, 1) := by decide +kernel
theorem d_Plc_findTimes_66 : decode prog_4_method_14_code 66 = .ok (.iconst 2, 1) := by decide +kernel
theorem d_Plc_findTimes_67 : decode prog_4_method_14_code 67 = .ok (.iload 4, 2) := by decide +kernel
theorem d_Plc_findTimes_69 : decode prog_4_method_14_code 69 = .ok (.imul, 1) := by decide +kernel
theorem d_Plc_findTimes_70 : decode prog_4_method_14_code 70 = .ok (.iconst 1, 1) := by decide +kernel
theorem d_Plc_findTimes_71 : decode prog_4_method_14_code 71 = .ok (.iadd, 1) := by decide +kernel
theorem d_Plc_findTimes_72 : decode prog_4_method_14_code 72 = .ok (.invokevirtual 93, 3) := by decide +kernel
theorem mw_271 : Cond.code ⟨"ScanMill$Places", "note", "(II)V"⟩ prog_4_method_15_code 3 (Option.none : Option FieldType) ∈ wG := wG_t 271 (by decide +kernel) (by decide +kernel)
theorem mw_4 : Cond.initialized "ScanMill$Places" ∈ wG := wG_t 4 (by decide +kernel) (by decide +kernel)
theorem mw_268 : Cond.methodLink "ScanMill$Places" 93 ⟨"ScanMill$Places", "note", "(II)V"⟩ ∈ wG := wG_t 268 (by decide +kernel) (by decide +kernel)
theorem mw_270 : Cond.instanceMethod ⟨"ScanMill$Places", "note", "(II)V"⟩ ∈ wG := wG_t 270 (by decide +kernel) (by decide +kernel)
theorem mp_7 : Cond.selects "ScanMill$Places" ⟨"ScanMill$Places", "note", "(II)V"⟩ ⟨"ScanMill$Places", "note", "(II)V"⟩ ∈ wG := wG_p 7 (by decide +kernel) (by decide +kernel)
theorem d_Plc_findTimes_45 : decode prog_4_method_14_code 45 = .ok (.aload_n 0, 1) := by decide +kernel
theorem d_Plc_findTimes_46 : decode prog_4_method_14_code 46 = .ok (.iload_n 3, 1) := by decide +kernel
theorem d_Plc_findTimes_47 : decode prog_4_method_14_code 47 = .ok (.iconst 2, 1) := by decide +kernel
theorem d_Plc_findTimes_48 : decode prog_4_method_14_code 48 = .ok (.iload 4, 2) := by decide +kernel
theorem d_Plc_findTimes_50 : decode prog_4_method_14_code 50 = .ok (.imul, 1) := by decide +kernel
theorem d_Plc_findTimes_51 : decode prog_4_method_14_code 51 = .ok (.invokevirtual 93, 3) := by decide +kernel
theorem d_Plc_findTimes_8 : decode prog_4_method_14_code 8 = .ok (.aload_n 2, 1) := by decide +kernel
theorem d_Plc_findTimes_9 : decode prog_4_method_14_code 9 = .ok (.iconst 0, 1) := by decide +kernel
theorem d_Plc_findTimes_10 : decode prog_4_method_14_code 10 = .ok (.iload_n 3, 1) := by decide +kernel
theorem d_Plc_findTimes_11 : decode prog_4_method_14_code 11 = .ok (.invokevirtual 87, 3) := by decide +kernel
theorem d_Plc_findTimes_14 : decode prog_4_method_14_code 14 = .ok (.ifCond .eq 9, 3) := by decide +kernel
theorem d_Plc_findTimes_17 : decode prog_4_method_14_code 17 = .ok (.aload_n 0, 1) := by decide +kernel
theorem d_Plc_findTimes_18 : decode prog_4_method_14_code 18 = .ok (.iload_n 3, 1) := by decide +kernel
theorem d_Plc_findTimes_19 : decode prog_4_method_14_code 19 = .ok (.iconst (-1), 1) := by decide +kernel
theorem d_Plc_findTimes_20 : decode prog_4_method_14_code 20 = .ok (.invokevirtual 93, 3) := by decide +kernel
set_option maxRecDepth 100000 in
set_option maxHeartbeats 4000000 in
theorem c_Plc_findTimes {l : Launch} {dC : Nat → ClassId} {dI : Nat → Nat → Nat} {cI cZ : ClassId} {pl pf pa po pr ps pd ph pq wo wr : Nat} {fi la ov rg sl od rh sh : Nat → Int32} {sc : Int32} {r rk ra rb rc n : Nat} {fk fa fb fc : Nat → Int32} {lv lf : Nat} {ff : Nat → Int32} {stl : Int32} (hn : n ≤ 60) : sm_V l y_Plc_findTimes prog_4_method_14_code 5 none (rmF 3 63) (dC, dI) smC [(cI, .int), (cZ, .boolean)] [.ref pl, .ref r, .ref lv] [(pl, .inr (2, [.ref pf, .ref pa, .ref po, .ref pr, .ref ps, .ref pd, .ref ph, .ref pq, .int (nI wo), .int (nI wr), .int sc])), (pf, .inl (cI, 24, .inl fi)), (pa, .inl (cI, 24, .inl la)), (po, .inl (cZ, 24, .inl ov)), (pr, .inl (cI, 24, .inl rg)), (ps, .inl (cI, 24, .inl sl)), (pd, .inl (cI, 24, .inl od)), (ph, .inl (cI, 8, .inl rh)), (pq, .inl (cI, 24, .inl sh)), (r, .inr (0, [.ref rk, .ref ra, .ref rb, .ref rc, .int (nI n)])), (rk, .inl (cI, 60, .inl fk)), (ra, .inl (cI, 60, .inl fa)), (rb, .inl (cI, 60, .inl fb)), (rc, .inl (cI, 60, .inl fc)), (lv, .inr (1, [.ref lf, .int stl])), (lf, .inl (cI, 61, .inl ff))] (fun w2 => w2 = [(pl, .inr (2, [.ref pf, .ref pa, .ref po, .ref pr, .ref ps, .ref pd, .ref ph, .ref pq, .int (nI wo), .int (nI wr), .int sc])), (pf, .inl (cI, 24, .inl ((ftO n fk fa ff 24 0 fi la).1))), (pa, .inl (cI, 24, .inl ((ftO n fk fa ff 24 0 fi la).2))), (po, .inl (cZ, 24, .inl ov)), (pr, .inl (cI, 24, .inl rg)), (ps, .inl (cI, 24, .inl sl)), (pd, .inl (cI, 24, .inl od)), (ph, .inl (cI, 8, .inl rh)), (pq, .inl (cI, 24, .inl sh)), (r, .inr (0, [.ref rk, .ref ra, .ref rb, .ref rc, .int (nI n)])), (rk, .inl (cI, 60, .inl fk)), (ra, .inl (cI, 60, .inl fa)), (rb, .inl (cI, 60, .inl fb)), (rc, .inl (cI, 60, .inl fc)), (lv, .inr (1, [.ref lf, .int stl])), (lf, .inl (cI, 61, .inl ff))]) := by
  refine sm_V.mk (by decide) (Nat.le_of_ble_eq_true rfl) ?_
  intro p e s m below meth c A H locs ls hx hb hr ht hown hlocks hml hnm hP hK hD hA hS hN hl
  have hl : lv_has ls 5 [(0, .ref pl), (1, .ref r), (2, .ref lv)] := hl
  refine lv_iconst (v := 0) hx hb d_Plc_findTimes_0 (by decide) ?_
  refine lv_istore_n (lv' := [(3, .int ((0 : Int32))), (0, .ref pl), (1, .ref r), (2, .ref lv)]) hx hb d_Plc_findTimes_1 rfl hl (by decide) rfl (fun ls hl => ?_)
  have loop_2 : ∀ (N_2 : Nat) (q : Nat) (v : Nat) (gi : Nat → Int32) (gl : Nat → Int32), (q + v = 24) → (ftO n fk fa ff q v gi gl = ftO n fk fa ff 24 0 fi la) → q < N_2 → ∀ (H : Heap) (locs : List Loc), va_P (dC, dI) smC [(pl, .inr (2, [.ref pf, .ref pa, .ref po, .ref pr, .ref ps, .ref pd, .ref ph, .ref pq, .int (nI wo), .int (nI wr), .int sc])), (pf, .inl (cI, 24, .inl gi)), (pa, .inl (cI, 24, .inl gl)), (po, .inl (cZ, 24, .inl ov)), (pr, .inl (cI, 24, .inl rg)), (ps, .inl (cI, 24, .inl sl)), (pd, .inl (cI, 24, .inl od)), (ph, .inl (cI, 8, .inl rh)), (pq, .inl (cI, 24, .inl sh)), (r, .inr (0, [.ref rk, .ref ra, .ref rb, .ref rc, .int (nI n)])), (rk, .inl (cI, 60, .inl fk)), (ra, .inl (cI, 60, .inl fa)), (rb, .inl (cI, 60, .inl fb)), (rc, .inl (cI, 60, .inl fc)), (lv, .inr (1, [.ref lf, .int stl])), (lf, .inl (cI, 61, .inl ff))] H → va_D A [(pl, .inr (2, [.ref pf, .ref pa, .ref po, .ref pr, .ref ps, .ref pd, .ref ph, .ref pq, .int (nI wo), .int (nI wr), .int sc])), (pf, .inl (cI, 24, .inl gi)), (pa, .inl (cI, 24, .inl gl)), (po, .inl (cZ, 24, .inl ov)), (pr, .inl (cI, 24, .inl rg)), (ps, .inl (cI, 24, .inl sl)), (pd, .inl (cI, 24, .inl od)), (ph, .inl (cI, 8, .inl rh)), (pq, .inl (cI, 24, .inl sh)), (r, .inr (0, [.ref rk, .ref ra, .ref rb, .ref rc, .int (nI n)])), (rk, .inl (cI, 60, .inl fk)), (ra, .inl (cI, 60, .inl fa)), (rb, .inl (cI, 60, .inl fb)), (rc, .inl (cI, 60, .inl fc)), (lv, .inr (1, [.ref lf, .int stl])), (lf, .inl (cI, 61, .inl ff))] → va_S A s.heap H locs → ∀ ls : Array Slot, lv_has ls 5 [(0, .ref pl), (1, .ref r), (2, .ref lv), (3, .int (nI v))] → W p l e (rmF 3 63) s m ([.ref pl, .ref r, .ref lv] : List Value).toArray below meth c H locs 0 0 (MQ below (va_Qv (fun w2 => w2 = [(pl, .inr (2, [.ref pf, .ref pa, .ref po, .ref pr, .ref ps, .ref pd, .ref ph, .ref pq, .int (nI wo), .int (nI wr), .int sc])), (pf, .inl (cI, 24, .inl ((ftO n fk fa ff 24 0 fi la).1))), (pa, .inl (cI, 24, .inl ((ftO n fk fa ff 24 0 fi la).2))), (po, .inl (cZ, 24, .inl ov)), (pr, .inl (cI, 24, .inl rg)), (ps, .inl (cI, 24, .inl sl)), (pd, .inl (cI, 24, .inl od)), (ph, .inl (cI, 8, .inl rh)), (pq, .inl (cI, 24, .inl sh)), (r, .inr (0, [.ref rk, .ref ra, .ref rb, .ref rc, .int (nI n)])), (rk, .inl (cI, 60, .inl fk)), (ra, .inl (cI, 60, .inl fa)), (rb, .inl (cI, 60, .inl fb)), (rc, .inl (cI, 60, .inl fc)), (lv, .inr (1, [.ref lf, .int stl])), (lf, .inl (cI, 61, .inl ff))]) (sm_B (dC, dI) smC [(cI, .int), (cZ, .boolean)] A) A) ([.ref pl, .ref r, .ref lv] : List Value).toArray s 0 0 A) (F0 m 2 ls []) := by
    intro N_2
    induction N_2 with
    | zero => intro q v gi gl _ _ z; exact absurd z (Nat.not_lt_zero _)
    | succ N_2 ih_2 =>
      intro q v gi gl hqv hv m_2 H locs hP hD hS ls hl
      refine lv_iload_n hx hb d_Plc_findTimes_2 rfl (lv_at hl 3 rfl) ?_
      refine lv_bipush (v := 24) hx hb d_Plc_findTimes_3 (by decide) ?_
      refine lv_icmp_ge (tgt := 87) hx hb d_Plc_findTimes_5 (by decide) (fun c_5 => ?_) (fun c_5 => ?_)
      · skip
        have f_5 : 24 ≤ v := (nI_leI (a := 24) (b := v) (by first | omega | decide) (by first | omega | decide)).mp c_5
        obtain rfl : q = 0 := by omega
        refine sm_rv (ws := [(pl, .inr (2, [.ref pf, .ref pa, .ref po, .ref pr, .ref ps, .ref pd, .ref ph, .ref pq, .int (nI wo), .int (nI wr), .int sc])), (pf, .inl (cI, 24, .inl gi)), (pa, .inl (cI, 24, .inl gl)), (po, .inl (cZ, 24, .inl ov)), (pr, .inl (cI, 24, .inl rg)), (ps, .inl (cI, 24, .inl sl)), (pd, .inl (cI, 24, .inl od)), (ph, .inl (cI, 8, .inl rh)), (pq, .inl (cI, 24, .inl sh)), (r, .inr (0, [.ref rk, .ref ra, .ref rb, .ref rc, .int (nI n)])), (rk, .inl (cI, 60, .inl fk)), (ra, .inl (cI, 60, .inl fa)), (rb, .inl (cI, 60, .inl fb)), (rc, .inl (cI, 60, .inl fc)), (lv, .inr (1, [.ref lf, .int stl])), (lf, .inl (cI, 61, .inl ff))]) hx hb hr hlocks hK (hP.sub [0, 1, 2, 3, 4, 5, 6, 7, 8, 9, 10, 11, 12, 13, 14, 15] rfl) (hD.sub [0, 1, 2, 3, 4, 5, 6, 7, 8, 9, 10, 11, 12, 13, 14, 15] (by decide) rfl) hS ?_ d_Plc_findTimes_87
        show _ = _
        rw [← hv]; rfl
      · skip
        have f_5 : ¬ 24 ≤ v := fun z => c_5 ((nI_leI (a := 24) (b := v) (by first | omega | decide) (by first | omega | decide)).mpr z)
        obtain ⟨q1, rfl⟩ : ∃ z, q = z + 1 := ⟨q - 1, by omega⟩
        have join_23 : ∀ (ai : Nat → Int32) (al : Nat → Int32) (H : Heap) (locs : List Loc), ((ai, al) = ft0 ff gi gl v) → va_P (dC, dI) smC [(pl, .inr (2, [.ref pf, .ref pa, .ref po, .ref pr, .ref ps, .ref pd, .ref ph, .ref pq, .int (nI wo), .int (nI wr), .int sc])), (pf, .inl (cI, 24, .inl ai)), (pa, .inl (cI, 24, .inl al)), (po, .inl (cZ, 24, .inl ov)), (pr, .inl (cI, 24, .inl rg)), (ps, .inl (cI, 24, .inl sl)), (pd, .inl (cI, 24, .inl od)), (ph, .inl (cI, 8, .inl rh)), (pq, .inl (cI, 24, .inl sh)), (r, .inr (0, [.ref rk, .ref ra, .ref rb, .ref rc, .int (nI n)])), (rk, .inl (cI, 60, .inl fk)), (ra, .inl (cI, 60, .inl fa)), (rb, .inl (cI, 60, .inl fb)), (rc, .inl (cI, 60, .inl fc)), (lv, .inr (1, [.ref lf, .int stl])), (lf, .inl (cI, 61, .inl ff))] H → va_D A [(pl, .inr (2, [.ref pf, .ref pa, .ref po, .ref pr, .ref ps, .ref pd, .ref ph, .ref pq, .int (nI wo), .int (nI wr), .int sc])), (pf, .inl (cI, 24, .inl ai)), (pa, .inl (cI, 24, .inl al)), (po, .inl (cZ, 24, .inl ov)), (pr, .inl (cI, 24, .inl rg)), (ps, .inl (cI, 24, .inl sl)), (pd, .inl (cI, 24, .inl od)), (ph, .inl (cI, 8, .inl rh)), (pq, .inl (cI, 24, .inl sh)), (r, .inr (0, [.ref rk, .ref ra, .ref rb, .ref rc, .int (nI n)])), (rk, .inl (cI, 60, .inl fk)), (ra, .inl (cI, 60, .inl fa)), (rb, .inl (cI, 60, .inl fb)), (rc, .inl (cI, 60, .inl fc)), (lv, .inr (1, [.ref lf, .int stl])), (lf, .inl (cI, 61, .inl ff))] → va_S A s.heap H locs → ∀ ls : Array Slot, lv_has ls 5 [(0, .ref pl), (1, .ref r), (2, .ref lv), (3, .int (nI v))] → W p l e (rmF 3 63) s m ([.ref pl, .ref r, .ref lv] : List Value).toArray below meth c H locs 0 0 (MQ below (va_Qv (fun w2 => w2 = [(pl, .inr (2, [.ref pf, .ref pa, .ref po, .ref pr, .ref ps, .ref pd, .ref ph, .ref pq, .int (nI wo), .int (nI wr), .int sc])), (pf, .inl (cI, 24, .inl ((ftO n fk fa ff 24 0 fi la).1))), (pa, .inl (cI, 24, .inl ((ftO n fk fa ff 24 0 fi la).2))), (po, .inl (cZ, 24, .inl ov)), (pr, .inl (cI, 24, .inl rg)), (ps, .inl (cI, 24, .inl sl)), (pd, .inl (cI, 24, .inl od)), (ph, .inl (cI, 8, .inl rh)), (pq, .inl (cI, 24, .inl sh)), (r, .inr (0, [.ref rk, .ref ra, .ref rb, .ref rc, .int (nI n)])), (rk, .inl (cI, 60, .inl fk)), (ra, .inl (cI, 60, .inl fa)), (rb, .inl (cI, 60, .inl fb)), (rc, .inl (cI, 60, .inl fc)), (lv, .inr (1, [.ref lf, .int stl])), (lf, .inl (cI, 61, .inl ff))]) (sm_B (dC, dI) smC [(cI, .int), (cZ, .boolean)] A) A) ([.ref pl, .ref r, .ref lv] : List Value).toArray s 0 0 A) (F0 m 23 ls []) := by
          intro ai al H locs haj hP hD hS ls hl
          refine lv_iconst (v := 0) hx hb d_Plc_findTimes_23 (by decide) ?_
          refine lv_istore (lv' := [(4, .int ((0 : Int32))), (0, .ref pl), (1, .ref r), (2, .ref lv), (3, .int (nI v))]) hx hb d_Plc_findTimes_24 hl (by decide) rfl (fun ls hl => ?_)
          have loop_26 : ∀ (N_26 : Nat) (q2 : Nat) (k : Nat) (bi : Nat → Int32) (bl : Nat → Int32), (q2 + k = n) → (ftK n fk fa ff v q2 k bi bl = ftK n fk fa ff v n 0 ai al) → q2 < N_26 → ∀ (H : Heap) (locs : List Loc), va_P (dC, dI) smC [(pl, .inr (2, [.ref pf, .ref pa, .ref po, .ref pr, .ref ps, .ref pd, .ref ph, .ref pq, .int (nI wo), .int (nI wr), .int sc])), (pf, .inl (cI, 24, .inl bi)), (pa, .inl (cI, 24, .inl bl)), (po, .inl (cZ, 24, .inl ov)), (pr, .inl (cI, 24, .inl rg)), (ps, .inl (cI, 24, .inl sl)), (pd, .inl (cI, 24, .inl od)), (ph, .inl (cI, 8, .inl rh)), (pq, .inl (cI, 24, .inl sh)), (r, .inr (0, [.ref rk, .ref ra, .ref rb, .ref rc, .int (nI n)])), (rk, .inl (cI, 60, .inl fk)), (ra, .inl (cI, 60, .inl fa)), (rb, .inl (cI, 60, .inl fb)), (rc, .inl (cI, 60, .inl fc)), (lv, .inr (1, [.ref lf, .int stl])), (lf, .inl (cI, 61, .inl ff))] H → va_D A [(pl, .inr (2, [.ref pf, .ref pa, .ref po, .ref pr, .ref ps, .ref pd, .ref ph, .ref pq, .int (nI wo), .int (nI wr), .int sc])), (pf, .inl (cI, 24, .inl bi)), (pa, .inl (cI, 24, .inl bl)), (po, .inl (cZ, 24, .inl ov)), (pr, .inl (cI, 24, .inl rg)), (ps, .inl (cI, 24, .inl sl)), (pd, .inl (cI, 24, .inl od)), (ph, .inl (cI, 8, .inl rh)), (pq, .inl (cI, 24, .inl sh)), (r, .inr (0, [.ref rk, .ref ra, .ref rb, .ref rc, .int (nI n)])), (rk, .inl (cI, 60, .inl fk)), (ra, .inl (cI, 60, .inl fa)), (rb, .inl (cI, 60, .inl fb)), (rc, .inl (cI, 60, .inl fc)), (lv, .inr (1, [.ref lf, .int stl])), (lf, .inl (cI, 61, .inl ff))] → va_S A s.heap H locs → ∀ ls : Array Slot, lv_has ls 5 [(0, .ref pl), (1, .ref r), (2, .ref lv), (3, .int (nI v)), (4, .int (nI k))] → W p l e (rmF 3 63) s m ([.ref pl, .ref r, .ref lv] : List Value).toArray below meth c H locs 0 0 (MQ below (va_Qv (fun w2 => w2 = [(pl, .inr (2, [.ref pf, .ref pa, .ref po, .ref pr, .ref ps, .ref pd, .ref ph, .ref pq, .int (nI wo), .int (nI wr), .int sc])), (pf, .inl (cI, 24, .inl ((ftO n fk fa ff 24 0 fi la).1))), (pa, .inl (cI, 24, .inl ((ftO n fk fa ff 24 0 fi la).2))), (po, .inl (cZ, 24, .inl ov)), (pr, .inl (cI, 24, .inl rg)), (ps, .inl (cI, 24, .inl sl)), (pd, .inl (cI, 24, .inl od)), (ph, .inl (cI, 8, .inl rh)), (pq, .inl (cI, 24, .inl sh)), (r, .inr (0, [.ref rk, .ref ra, .ref rb, .ref rc, .int (nI n)])), (rk, .inl (cI, 60, .inl fk)), (ra, .inl (cI, 60, .inl fa)), (rb, .inl (cI, 60, .inl fb)), (rc, .inl (cI, 60, .inl fc)), (lv, .inr (1, [.ref lf, .int stl])), (lf, .inl (cI, 61, .inl ff))]) (sm_B (dC, dI) smC [(cI, .int), (cZ, .boolean)] A) A) ([.ref pl, .ref r, .ref lv] : List Value).toArray s 0 0 A) (F0 m 26 ls []) := by
            intro N_26
            induction N_26 with
            | zero => intro q2 k bi bl _ _ z; exact absurd z (Nat.not_lt_zero _)
            | succ N_26 ih_26 =>
              intro q2 k bi bl hqk hw m_26 H locs hP hD hS ls hl
              refine lv_iload hx hb d_Plc_findTimes_26 (lv_at hl 4 rfl) ?_
              refine lv_aload_n hx hb d_Plc_findTimes_28 rfl (lv_at hl 1 rfl) ?_
              refine sm_goi (wc := [(r, .inr (0, [.ref rk, .ref ra, .ref rb, .ref rc, .int (nI n)])), (rk, .inl (cI, 60, .inl fk)), (ra, .inl (cI, 60, .inl fa)), (rb, .inl (cI, 60, .inl fb)), (rc, .inl (cI, 60, .inl fc))]) (wr := [(pl, .inr (2, [.ref pf, .ref pa, .ref po, .ref pr, .ref ps, .ref pd, .ref ph, .ref pq, .int (nI wo), .int (nI wr), .int sc])), (pf, .inl (cI, 24, .inl bi)), (pa, .inl (cI, 24, .inl bl)), (po, .inl (cZ, 24, .inl ov)), (pr, .inl (cI, 24, .inl rg)), (ps, .inl (cI, 24, .inl sl)), (pd, .inl (cI, 24, .inl od)), (ph, .inl (cI, 8, .inl rh)), (pq, .inl (cI, 24, .inl sh)), (lv, .inr (1, [.ref lf, .int stl])), (lf, .inl (cI, 61, .inl ff))]) (va_runV (As := []) (rest := [.int (nI k)]) ⟨hx, hb, hml, hown, ht⟩ ((c_Row_size (l := l) (dC := dC) (dI := dI) (cI := cI) (cZ := cZ) (r := r) (rk := rk) (ra := ra) (rb := rb) (rc := rc) (n := n) (fk := fk) (fa := fa) (fb := fb) (fc := fc) ).at H.size) (sm_cV 0 ht mw_182 mw_2 mw_273 mw_180 mw_181 rfl rfl (by decide +kernel) ⟨Nat.le_of_ble_eq_true rfl, Nat.le_of_ble_eq_true rfl⟩) (sm_preV (ci := 0) hN hK hP hD [9, 10, 11, 12, 13] rfl rfl (by decide) 9 rfl rfl) rfl rfl hl.1 rfl (lv_room (Nat.le_of_ble_eq_true rfl)) d_Plc_findTimes_29 ⟨Nat.zero_le _, Nat.zero_le _⟩) hP hD hS hA [9, 10, 11, 12, 13] [0, 1, 2, 3, 4, 5, 6, 7, 8, 14, 15] rfl rfl (by decide) (by decide) (fun r_29 w_29 H locs q_29 hP hD hS => ?_)
              obtain ⟨rfl, rfl⟩ := q_29
              have hP : va_P (dC, dI) smC [(pl, .inr (2, [.ref pf, .ref pa, .ref po, .ref pr, .ref ps, .ref pd, .ref ph, .ref pq, .int (nI wo), .int (nI wr), .int sc])), (pf, .inl (cI, 24, .inl bi)), (pa, .inl (cI, 24, .inl bl)), (po, .inl (cZ, 24, .inl ov)), (pr, .inl (cI, 24, .inl rg)), (ps, .inl (cI, 24, .inl sl)), (pd, .inl (cI, 24, .inl od)), (ph, .inl (cI, 8, .inl rh)), (pq, .inl (cI, 24, .inl sh)), (lv, .inr (1, [.ref lf, .int stl])), (lf, .inl (cI, 61, .inl ff)), (r, .inr (0, [.ref rk, .ref ra, .ref rb, .ref rc, .int (nI n)])), (rk, .inl (cI, 60, .inl fk)), (ra, .inl (cI, 60, .inl fa)), (rb, .inl (cI, 60, .inl fb)), (rc, .inl (cI, 60, .inl fc))] H := hP
              have hD : va_D A [(pl, .inr (2, [.ref pf, .ref pa, .ref po, .ref pr, .ref ps, .ref pd, .ref ph, .ref pq, .int (nI wo), .int (nI wr), .int sc])), (pf, .inl (cI, 24, .inl bi)), (pa, .inl (cI, 24, .inl bl)), (po, .inl (cZ, 24, .inl ov)), (pr, .inl (cI, 24, .inl rg)), (ps, .inl (cI, 24, .inl sl)), (pd, .inl (cI, 24, .inl od)), (ph, .inl (cI, 8, .inl rh)), (pq, .inl (cI, 24, .inl sh)), (lv, .inr (1, [.ref lf, .int stl])), (lf, .inl (cI, 61, .inl ff)), (r, .inr (0, [.ref rk, .ref ra, .ref rb, .ref rc, .int (nI n)])), (rk, .inl (cI, 60, .inl fk)), (ra, .inl (cI, 60, .inl fa)), (rb, .inl (cI, 60, .inl fb)), (rc, .inl (cI, 60, .inl fc))] := hD
              refine lv_icmp_ge (tgt := 81) hx hb d_Plc_findTimes_32 (by decide) (fun c_32 => ?_) (fun c_32 => ?_)
              · skip
                have f_32 : n ≤ k := (nI_leI (a := n) (b := k) (by first | omega | decide) (by first | omega | decide)).mp c_32
                obtain rfl : q2 = 0 := by omega
                refine lv_iinc (v := nI (v + 1)) (lv' := [(3, .int (nI (v + 1))), (0, .ref pl), (1, .ref r), (2, .ref lv), (4, .int (nI k))]) hx hb d_Plc_findTimes_81 hl (k := 3) rfl (nI_add v 1) (by decide) rfl (fun ls hl => ?_)
                refine lv_goto (tgt := 2) hx hb d_Plc_findTimes_84 (by decide) ?_
                exact ih_2 q1 (v + 1) bi bl (by omega) (by rw [← hv, ftO, ← haj]; dsimp only; rw [← hw]; rfl) (by omega) _ _ (hP.sub [0, 1, 2, 3, 4, 5, 6, 7, 8, 11, 12, 13, 14, 15, 9, 10] rfl) (hD.sub [0, 1, 2, 3, 4, 5, 6, 7, 8, 11, 12, 13, 14, 15, 9, 10] (by decide) rfl) hS _ (lv_sub hl [1, 2, 3, 0] rfl)
              · skip
                have f_32 : ¬ n ≤ k := fun z => c_32 ((nI_leI (a := n) (b := k) (by first | omega | decide) (by first | omega | decide)).mpr z)
                obtain ⟨q3, rfl⟩ : ∃ z, q2 = z + 1 := ⟨q2 - 1, by omega⟩
                refine lv_aload_n hx hb d_Plc_findTimes_35 rfl (lv_at hl 2 rfl) ?_
                refine lv_iload hx hb d_Plc_findTimes_36 (lv_at hl 4 rfl) ?_
                refine lv_iload_n hx hb d_Plc_findTimes_38 rfl (lv_at hl 3 rfl) ?_
                refine sm_goi (wc := [(lv, .inr (1, [.ref lf, .int stl])), (lf, .inl (cI, 61, .inl ff))]) (wr := [(pl, .inr (2, [.ref pf, .ref pa, .ref po, .ref pr, .ref ps, .ref pd, .ref ph, .ref pq, .int (nI wo), .int (nI wr), .int sc])), (pf, .inl (cI, 24, .inl bi)), (pa, .inl (cI, 24, .inl bl)), (po, .inl (cZ, 24, .inl ov)), (pr, .inl (cI, 24, .inl rg)), (ps, .inl (cI, 24, .inl sl)), (pd, .inl (cI, 24, .inl od)), (ph, .inl (cI, 8, .inl rh)), (pq, .inl (cI, 24, .inl sh)), (r, .inr (0, [.ref rk, .ref ra, .ref rb, .ref rc, .int (nI n)])), (rk, .inl (cI, 60, .inl fk)), (ra, .inl (cI, 60, .inl fa)), (rb, .inl (cI, 60, .inl fb)), (rc, .inl (cI, 60, .inl fc))]) (va_runV (As := [.int (nI k), .int (nI v)]) (rest := []) ⟨hx, hb, hml, hown, ht⟩ ((c_Liv_has (l := l) (dC := dC) (dI := dI) (cI := cI) (cZ := cZ) (lv := lv) (lf := lf) (ff := ff) (stl := stl) (k := nI k) (v := nI v) ).at H.size) (sm_cV 2 ht mw_267 mw_3 mw_264 mw_265 mw_266 rfl rfl (by decide +kernel) ⟨Nat.le_of_ble_eq_true rfl, Nat.le_of_ble_eq_true rfl⟩) (sm_preV (ci := 1) hN hK hP hD [9, 10] rfl rfl (by decide) 9 rfl rfl) rfl rfl hl.1 rfl (lv_room (Nat.le_of_ble_eq_true rfl)) d_Plc_findTimes_39 ⟨Nat.zero_le _, Nat.zero_le _⟩) hP hD hS hA [9, 10] [0, 1, 2, 3, 4, 5, 6, 7, 8, 11, 12, 13, 14, 15] rfl rfl (by decide) (by decide) (fun r_39 w_39 H locs q_39 hP hD hS => ?_)
                obtain ⟨rfl, rfl⟩ := q_39
                have hP : va_P (dC, dI) smC [(pl, .inr (2, [.ref pf, .ref pa, .ref po, .ref pr, .ref ps, .ref pd, .ref ph, .ref pq, .int (nI wo), .int (nI wr), .int sc])), (pf, .inl (cI, 24, .inl bi)), (pa, .inl (cI, 24, .inl bl)), (po, .inl (cZ, 24, .inl ov)), (pr, .inl (cI, 24, .inl rg)), (ps, .inl (cI, 24, .inl sl)), (pd, .inl (cI, 24, .inl od)), (ph, .inl (cI, 8, .inl rh)), (pq, .inl (cI, 24, .inl sh)), (r, .inr (0, [.ref rk, .ref ra, .ref rb, .ref rc, .int (nI n)])), (rk, .inl (cI, 60, .inl fk)), (ra, .inl (cI, 60, .inl fa)), (rb, .inl (cI, 60, .inl fb)), (rc, .inl (cI, 60, .inl fc)), (lv, .inr (1, [.ref lf, .int stl])), (lf, .inl (cI, 61, .inl ff))] H := hP
                have hD : va_D A [(pl, .inr (2, [.ref pf, .ref pa, .ref po, .ref pr, .ref ps, .ref pd, .ref ph, .ref pq, .int (nI wo), .int (nI wr), .int sc])), (pf, .inl (cI, 24, .inl bi)), (pa, .inl (cI, 24, .inl bl)), (po, .inl (cZ, 24, .inl ov)), (pr, .inl (cI, 24, .inl rg)), (ps, .inl (cI, 24, .inl sl)), (pd, .inl (cI, 24, .inl od)), (ph, .inl (cI, 8, .inl rh)), (pq, .inl (cI, 24, .inl sh)), (r, .inr (0, [.ref rk, .ref ra, .ref rb, .ref rc, .int (nI n)])), (rk, .inl (cI, 60, .inl fk)), (ra, .inl (cI, 60, .inl fa)), (rb, .inl (cI, 60, .inl fb)), (rc, .inl (cI, 60, .inl fc)), (lv, .inr (1, [.ref lf, .int stl])), (lf, .inl (cI, 61, .inl ff))] := hD
                refine lv_if_eq (tgt := 54) hx hb d_Plc_findTimes_42 (by decide) (fun c_42 => ?_) (fun c_42 => ?_)
                · skip
                  have e_42 : (hasB ff (nI k) (nI v)) = false := b2i_eq0 c_42
                  refine lv_aload_n hx hb d_Plc_findTimes_54 rfl (lv_at hl 1 rfl) ?_
                  refine lv_iload hx hb d_Plc_findTimes_55 (lv_at hl 4 rfl) ?_
                  refine sm_goi (wc := [(r, .inr (0, [.ref rk, .ref ra, .ref rb, .ref rc, .int (nI n)])), (rk, .inl (cI, 60, .inl fk)), (ra, .inl (cI, 60, .inl fa)), (rb, .inl (cI, 60, .inl fb)), (rc, .inl (cI, 60, .inl fc))]) (wr := [(pl, .inr (2, [.ref pf, .ref pa, .ref po, .ref pr, .ref ps, .ref pd, .ref ph, .ref pq, .int (nI wo), .int (nI wr), .int sc])), (pf, .inl (cI, 24, .inl bi)), (pa, .inl (cI, 24, .inl bl)), (po, .inl (cZ, 24, .inl ov)), (pr, .inl (cI, 24, .inl rg)), (ps, .inl (cI, 24, .inl sl)), (pd, .inl (cI, 24, .inl od)), (ph, .inl (cI, 8, .inl rh)), (pq, .inl (cI, 24, .inl sh)), (lv, .inr (1, [.ref lf, .int stl])), (lf, .inl (cI, 61, .inl ff))]) (va_runV (As := [.int (nI k)]) (rest := []) ⟨hx, hb, hml, hown, ht⟩ ((c_Row_setAt (l := l) (dC := dC) (dI := dI) (cI := cI) (cZ := cZ) (r := r) (rk := rk) (ra := ra) (rb := rb) (rc := rc) (n := n) (fk := fk) (fa := fa) (fb := fb) (fc := fc) (k := nI k) (by first | assumption | omega)).at H.size) (sm_cV 1 ht mw_246 mw_2 mw_274 mw_244 mw_245 rfl rfl (by decide +kernel) ⟨Nat.le_of_ble_eq_true rfl, Nat.le_of_ble_eq_true rfl⟩) (sm_preV (ci := 0) hN hK hP hD [9, 10, 11, 12, 13] rfl rfl (by decide) 9 rfl rfl) rfl rfl hl.1 rfl (lv_room (Nat.le_of_ble_eq_true rfl)) d_Plc_findTimes_57 ⟨Nat.zero_le _, Nat.zero_le _⟩) hP hD hS hA [9, 10, 11, 12, 13] [0, 1, 2, 3, 4, 5, 6, 7, 8, 14, 15] rfl rfl (by decide) (by decide) (fun r_57 w_57 H locs q_57 hP hD hS => ?_)
                  obtain ⟨rfl, rfl⟩ := q_57
                  have hP : va_P (dC, dI) smC [(pl, .inr (2, [.ref pf, .ref pa, .ref po, .ref pr, .ref ps, .ref pd, .ref ph, .ref pq, .int (nI wo), .int (nI wr), .int sc])), (pf, .inl (cI, 24, .inl bi)), (pa, .inl (cI, 24, .inl bl)), (po, .inl (cZ, 24, .inl ov)), (pr, .inl (cI, 24, .inl rg)), (ps, .inl (cI, 24, .inl sl)), (pd, .inl (cI, 24, .inl od)), (ph, .inl (cI, 8, .inl rh)), (pq, .inl (cI, 24, .inl sh)), (lv, .inr (1, [.ref lf, .int stl])), (lf, .inl (cI, 61, .inl ff)), (r, .inr (0, [.ref rk, .ref ra, .ref rb, .ref rc, .int (nI n)])), (rk, .inl (cI, 60, .inl fk)), (ra, .inl (cI, 60, .inl fa)), (rb, .inl (cI, 60, .inl fb)), (rc, .inl (cI, 60, .inl fc))] H := hP
                  have hD : va_D A [(pl, .inr (2, [.ref pf, .ref pa, .ref po, .ref pr, .ref ps, .ref pd, .ref ph, .ref pq, .int (nI wo), .int (nI wr), .int sc])), (pf, .inl (cI, 24, .inl bi)), (pa, .inl (cI, 24, .inl bl)), (po, .inl (cZ, 24, .inl ov)), (pr, .inl (cI, 24, .inl rg)), (ps, .inl (cI, 24, .inl sl)), (pd, .inl (cI, 24, .inl od)), (ph, .inl (cI, 8, .inl rh)), (pq, .inl (cI, 24, .inl sh)), (lv, .inr (1, [.ref lf, .int stl])), (lf, .inl (cI, 61, .inl ff)), (r, .inr (0, [.ref rk, .ref ra, .ref rb, .ref rc, .int (nI n)])), (rk, .inl (cI, 60, .inl fk)), (ra, .inl (cI, 60, .inl fa)), (rb, .inl (cI, 60, .inl fb)), (rc, .inl (cI, 60, .inl fc))] := hD
                  refine lv_iload_n hx hb d_Plc_findTimes_60 rfl (lv_at hl 3 rfl) ?_
                  refine lv_icmp_ne (tgt := 75) hx hb d_Plc_findTimes_61 (by decide) (fun c_61 => ?_) (fun c_61 => ?_)
                  · skip
                    refine lv_iinc (v := nI (k + 1)) (lv' := [(4, .int (nI (k + 1))), (0, .ref pl), (1, .ref r), (2, .ref lv), (3, .int (nI v))]) hx hb d_Plc_findTimes_75 hl (k := 4) rfl (nI_add k 1) (by decide) rfl (fun ls hl => ?_)
                    refine lv_goto (tgt := 26) hx hb d_Plc_findTimes_78 (by decide) ?_
                    exact ih_26 q3 (k + 1) bi bl (by omega) (by rw [← hw, ftK]; simp only [if_neg (Bool.eq_false_iff.mp e_42), if_neg c_61]) (by omega) _ _ (hP.sub [0, 1, 2, 3, 4, 5, 6, 7, 8, 11, 12, 13, 14, 15, 9, 10] rfl) (hD.sub [0, 1, 2, 3, 4, 5, 6, 7, 8, 11, 12, 13, 14, 15, 9, 10] (by decide) rfl) hS _ (lv_sub hl [1, 2, 3, 4, 0] rfl)
                  · skip
                    refine lv_aload_n hx hb d_Plc_findTimes_64 rfl (lv_at hl 0 rfl) ?_
                    refine lv_iload_n hx hb d_Plc_findTimes_65 rfl (lv_at hl 3 rfl) ?_
                    refine lv_iconst (v := 2) hx hb d_Plc_findTimes_66 (by decide) ?_
                    refine lv_iload hx hb d_Plc_findTimes_67 (lv_at hl 4 rfl) ?_
                    refine lv_imul hx hb d_Plc_findTimes_69 ?_
                    refine sm_re (pk_mul 2 k) ?_
                    refine lv_iconst (v := 1) hx hb d_Plc_findTimes_70 (by decide) ?_
                    refine lv_iadd hx hb d_Plc_findTimes_71 ?_
                    refine sm_re (nI_add (2 * k) 1) ?_
                    refine sm_gov (wc := [(pl, .inr (2, [.ref pf, .ref pa, .ref po, .ref pr, .ref ps, .ref pd, .ref ph, .ref pq, .int (nI wo), .int (nI wr), .int sc])), (pf, .inl (cI, 24, .inl bi)), (pa, .inl (cI, 24, .inl bl)), (po, .inl (cZ, 24, .inl ov)), (pr, .inl (cI, 24, .inl rg)), (ps, .inl (cI, 24, .inl sl)), (pd, .inl (cI, 24, .inl od)), (ph, .inl (cI, 8, .inl rh)), (pq, .inl (cI, 24, .inl sh))]) (wr := [(lv, .inr (1, [.ref lf, .int stl])), (lf, .inl (cI, 61, .inl ff)), (r, .inr (0, [.ref rk, .ref ra, .ref rb, .ref rc, .int (nI n)])), (rk, .inl (cI, 60, .inl fk)), (ra, .inl (cI, 60, .inl fa)), (rb, .inl (cI, 60, .inl fb)), (rc, .inl (cI, 60, .inl fc))]) (va_runV (As := [.int (nI v), .int (nI ((2 * k) + 1))]) (rest := []) ⟨hx, hb, hml, hown, ht⟩ ((c_Plc_note (l := l) (dC := dC) (dI := dI) (cI := cI) (cZ := cZ) (pl := pl) (pf := pf) (pa := pa) (po := po) (pr := pr) (ps := ps) (pd := pd) (ph := ph) (pq := pq) (wo := wo) (wr := wr) (fi := bi) (la := bl) (ov := ov) (rg := rg) (sl := sl) (od := od) (rh := rh) (sh := sh) (sc := sc) (j := v) (t := nI ((2 * k) + 1)) (by first | assumption | omega)).at H.size) (sm_cV 2 ht mw_271 mw_4 mw_268 mw_270 mp_7 rfl rfl (by decide +kernel) ⟨Nat.le_of_ble_eq_true rfl, Nat.le_of_ble_eq_true rfl⟩) (sm_preV (ci := 2) hN hK hP hD [0, 1, 2, 3, 4, 5, 6, 7, 8] rfl rfl (by decide) 0 rfl rfl) rfl rfl hl.1 rfl (lv_room (Nat.le_of_ble_eq_true rfl)) d_Plc_findTimes_72 ⟨Nat.zero_le _, Nat.zero_le _⟩) hP hD hS hA [0, 1, 2, 3, 4, 5, 6, 7, 8] [9, 10, 11, 12, 13, 14, 15] rfl rfl (by decide) (by decide) (fun w_72 H locs q_72 hP hD hS => ?_)
                    obtain rfl := q_72
                    have hP : va_P (dC, dI) smC [(lv, .inr (1, [.ref lf, .int stl])), (lf, .inl (cI, 61, .inl ff)), (r, .inr (0, [.ref rk, .ref ra, .ref rb, .ref rc, .int (nI n)])), (rk, .inl (cI, 60, .inl fk)), (ra, .inl (cI, 60, .inl fa)), (rb, .inl (cI, 60, .inl fb)), (rc, .inl (cI, 60, .inl fc)), (pl, .inr (2, [.ref pf, .ref pa, .ref po, .ref pr, .ref ps, .ref pd, .ref ph, .ref pq, .int (nI wo), .int (nI wr), .int sc])), (pf, .inl (cI, 24, .inl (nF bi bl v (nI ((2 * k) + 1))))), (pa, .inl (cI, 24, .inl (upd bl v (nI ((2 * k) + 1))))), (po, .inl (cZ, 24, .inl ov)), (pr, .inl (cI, 24, .inl rg)), (ps, .inl (cI, 24, .inl sl)), (pd, .inl (cI, 24, .inl od)), (ph, .inl (cI, 8, .inl rh)), (pq, .inl (cI, 24, .inl sh))] H := hP
                    have hD : va_D A [(lv, .inr (1, [.ref lf, .int stl])), (lf, .inl (cI, 61, .inl ff)), (r, .inr (0, [.ref rk, .ref ra, .ref rb, .ref rc, .int (nI n)])), (rk, .inl (cI, 60, .inl fk)), (ra, .inl (cI, 60, .inl fa)), (rb, .inl (cI, 60, .inl fb)), (rc, .inl (cI, 60, .inl fc)), (pl, .inr (2, [.ref pf, .ref pa, .ref po, .ref pr, .ref ps, .ref pd, .ref ph, .ref pq, .int (nI wo), .int (nI wr), .int sc])), (pf, .inl (cI, 24, .inl (nF bi bl v (nI ((2 * k) + 1))))), (pa, .inl (cI, 24, .inl (upd bl v (nI ((2 * k) + 1))))), (po, .inl (cZ, 24, .inl ov)), (pr, .inl (cI, 24, .inl rg)), (ps, .inl (cI, 24, .inl sl)), (pd, .inl (cI, 24, .inl od)), (ph, .inl (cI, 8, .inl rh)), (pq, .inl (cI, 24, .inl sh))] := hD
                    refine lv_iinc (v := nI (k + 1)) (lv' := [(4, .int (nI (k + 1))), (0, .ref pl), (1, .ref r), (2, .ref lv), (3, .int (nI v))]) hx hb d_Plc_findTimes_75 hl (k := 4) rfl (nI_add k 1) (by decide) rfl (fun ls hl => ?_)
                    refine lv_goto (tgt := 26) hx hb d_Plc_findTimes_78 (by decide) ?_
                    exact ih_26 q3 (k + 1) (nF bi bl v (nI ((2 * k) + 1))) (upd bl v (nI ((2 * k) + 1))) (by omega) (by rw [← hw, ftK]; simp only [if_neg (Bool.eq_false_iff.mp e_42), if_pos c_61]) (by omega) _ _ (hP.sub [7, 8, 9, 10, 11, 12, 13, 14, 15, 2, 3, 4, 5, 6, 0, 1] rfl) (hD.sub [7, 8, 9, 10, 11, 12, 13, 14, 15, 2, 3, 4, 5, 6, 0, 1] (by decide) rfl) hS _ (lv_sub hl [1, 2, 3, 4, 0] rfl)
                · skip
                  have e_42 : (hasB ff (nI k) (nI v)) = true := b2i_ne0 c_42
                  refine lv_aload_n hx hb d_Plc_findTimes_45 rfl (lv_at hl 0 rfl) ?_
                  refine lv_iload_n hx hb d_Plc_findTimes_46 rfl (lv_at hl 3 rfl) ?_
                  refine lv_iconst (v := 2) hx hb d_Plc_findTimes_47 (by decide) ?_
                  refine lv_iload hx hb d_Plc_findTimes_48 (lv_at hl 4 rfl) ?_
                  refine lv_imul hx hb d_Plc_findTimes_50 ?_
                  refine sm_re (pk_mul 2 k) ?_
                  refine sm_gov (wc := [(pl, .inr (2, [.ref pf, .ref pa, .ref po, .ref pr, .ref ps, .ref pd, .ref ph, .ref pq, .int (nI wo), .int (nI wr), .int sc])), (pf, .inl (cI, 24, .inl bi)), (pa, .inl (cI, 24, .inl bl)), (po, .inl (cZ, 24, .inl ov)), (pr, .inl (cI, 24, .inl rg)), (ps, .inl (cI, 24, .inl sl)), (pd, .inl (cI, 24, .inl od)), (ph, .inl (cI, 8, .inl rh)), (pq, .inl (cI, 24, .inl sh))]) (wr := [(r, .inr (0, [.ref rk, .ref ra, .ref rb, .ref rc, .int (nI n)])), (rk, .inl (cI, 60, .inl fk)), (ra, .inl (cI, 60, .inl fa)), (rb, .inl (cI, 60, .inl fb)), (rc, .inl (cI, 60, .inl fc)), (lv, .inr (1, [.ref lf, .int stl])), (lf, .inl (cI, 61, .inl ff))]) (va_runV (As := [.int (nI v), .int (nI (2 * k))]) (rest := []) ⟨hx, hb, hml, hown, ht⟩ ((c_Plc_note (l := l) (dC := dC) (dI := dI) (cI := cI) (cZ := cZ) (pl := pl) (pf := pf) (pa := pa) (po := po) (pr := pr) (ps := ps) (pd := pd) (ph := ph) (pq := pq) (wo := wo) (wr := wr) (fi := bi) (la := bl) (ov := ov) (rg := rg) (sl := sl) (od := od) (rh := rh) (sh := sh) (sc := sc) (j := v) (t := nI (2 * k)) (by first | assumption | omega)).at H.size) (sm_cV 2 ht mw_271 mw_4 mw_268 mw_270 mp_7 rfl rfl (by decide +kernel) ⟨Nat.le_of_ble_eq_true rfl, Nat.le_of_ble_eq_true rfl⟩) (sm_preV (ci := 2) hN hK hP hD [0, 1, 2, 3, 4, 5, 6, 7, 8] rfl rfl (by decide) 0 rfl rfl) rfl rfl hl.1 rfl (lv_room (Nat.le_of_ble_eq_true rfl)) d_Plc_findTimes_51 ⟨Nat.zero_le _, Nat.zero_le _⟩) hP hD hS hA [0, 1, 2, 3, 4, 5, 6, 7, 8] [9, 10, 11, 12, 13, 14, 15] rfl rfl (by decide) (by decide) (fun w_51 H locs q_51 hP hD hS => ?_)
                  obtain rfl := q_51
                  have hP : va_P (dC, dI) smC [(r, .inr (0, [.ref rk, .ref ra, .ref rb, .ref rc, .int (nI n)])), (rk, .inl (cI, 60, .inl fk)), (ra, .inl (cI, 60, .inl fa)), (rb, .inl (cI, 60, .inl fb)), (rc, .inl (cI, 60, .inl fc)), (lv, .inr (1, [.ref lf, .int stl])), (lf, .inl (cI, 61, .inl ff)), (pl, .inr (2, [.ref pf, .ref pa, .ref po, .ref pr, .ref ps, .ref pd, .ref ph, .ref pq, .int (nI wo), .int (nI wr), .int sc])), (pf, .inl (cI, 24, .inl (nF bi bl v (nI (2 * k))))), (pa, .inl (cI, 24, .inl (upd bl v (nI (2 * k))))), (po, .inl (cZ, 24, .inl ov)), (pr, .inl (cI, 24, .inl rg)), (ps, .inl (cI, 24, .inl sl)), (pd, .inl (cI, 24, .inl od)), (ph, .inl (cI, 8, .inl rh)), (pq, .inl (cI, 24, .inl sh))] H := hP
                  have hD : va_D A [(r, .inr (0, [.ref rk, .ref ra, .ref rb, .ref rc, .int (nI n)])), (rk, .inl (cI, 60, .inl fk)), (ra, .inl (cI, 60, .inl fa)), (rb, .inl (cI, 60, .inl fb)), (rc, .inl (cI, 60, .inl fc)), (lv, .inr (1, [.ref lf, .int stl])), (lf, .inl (cI, 61, .inl ff)), (pl, .inr (2, [.ref pf, .ref pa, .ref po, .ref pr, .ref ps, .ref pd, .ref ph, .ref pq, .int (nI wo), .int (nI wr), .int sc])), (pf, .inl (cI, 24, .inl (nF bi bl v (nI (2 * k))))), (pa, .inl (cI, 24, .inl (upd bl v (nI (2 * k))))), (po, .inl (cZ, 24, .inl ov)), (pr, .inl (cI, 24, .inl rg)), (ps, .inl (cI, 24, .inl sl)), (pd, .inl (cI, 24, .inl od)), (ph, .inl (cI, 8, .inl rh)), (pq, .inl (cI, 24, .inl sh))] := hD
                  refine lv_aload_n hx hb d_Plc_findTimes_54 rfl (lv_at hl 1 rfl) ?_
                  refine lv_iload hx hb d_Plc_findTimes_55 (lv_at hl 4 rfl) ?_
                  refine sm_goi (wc := [(r, .inr (0, [.ref rk, .ref ra, .ref rb, .ref rc, .int (nI n)])), (rk, .inl (cI, 60, .inl fk)), (ra, .inl (cI, 60, .inl fa)), (rb, .inl (cI, 60, .inl fb)), (rc, .inl (cI, 60, .inl fc))]) (wr := [(lv, .inr (1, [.ref lf, .int stl])), (lf, .inl (cI, 61, .inl ff)), (pl, .inr (2, [.ref pf, .ref pa, .ref po, .ref pr, .ref ps, .ref pd, .ref ph, .ref pq, .int (nI wo), .int (nI wr), .int sc])), (pf, .inl (cI, 24, .inl (nF bi bl v (nI (2 * k))))), (pa, .inl (cI, 24, .inl (upd bl v (nI (2 * k))))), (po, .inl (cZ, 24, .inl ov)), (pr, .inl (cI, 24, .inl rg)), (ps, .inl (cI, 24, .inl sl)), (pd, .inl (cI, 24, .inl od)), (ph, .inl (cI, 8, .inl rh)), (pq, .inl (cI, 24, .inl sh))]) (va_runV (As := [.int (nI k)]) (rest := []) ⟨hx, hb, hml, hown, ht⟩ ((c_Row_setAt (l := l) (dC := dC) (dI := dI) (cI := cI) (cZ := cZ) (r := r) (rk := rk) (ra := ra) (rb := rb) (rc := rc) (n := n) (fk := fk) (fa := fa) (fb := fb) (fc := fc) (k := nI k) (by first | assumption | omega)).at H.size) (sm_cV 1 ht mw_246 mw_2 mw_274 mw_244 mw_245 rfl rfl (by decide +kernel) ⟨Nat.le_of_ble_eq_true rfl, Nat.le_of_ble_eq_true rfl⟩) (sm_preV (ci := 0) hN hK hP hD [0, 1, 2, 3, 4] rfl rfl (by decide) 0 rfl rfl) rfl rfl hl.1 rfl (lv_room (Nat.le_of_ble_eq_true rfl)) d_Plc_findTimes_57 ⟨Nat.zero_le _, Nat.zero_le _⟩) hP hD hS hA [0, 1, 2, 3, 4] [5, 6, 7, 8, 9, 10, 11, 12, 13, 14, 15] rfl rfl (by decide) (by decide) (fun r_57 w_57 H locs q_57 hP hD hS => ?_)
                  obtain ⟨rfl, rfl⟩ := q_57
                  have hP : va_P (dC, dI) smC [(lv, .inr (1, [.ref lf, .int stl])), (lf, .inl (cI, 61, .inl ff)), (pl, .inr (2, [.ref pf, .ref pa, .ref po, .ref pr, .ref ps, .ref pd, .ref ph, .ref pq, .int (nI wo), .int (nI wr), .int sc])), (pf, .inl (cI, 24, .inl (nF bi bl v (nI (2 * k))))), (pa, .inl (cI, 24, .inl (upd bl v (nI (2 * k))))), (po, .inl (cZ, 24, .inl ov)), (pr, .inl (cI, 24, .inl rg)), (ps, .inl (cI, 24, .inl sl)), (pd, .inl (cI, 24, .inl od)), (ph, .inl (cI, 8, .inl rh)), (pq, .inl (cI, 24, .inl sh)), (r, .inr (0, [.ref rk, .ref ra, .ref rb, .ref rc, .int (nI n)])), (rk, .inl (cI, 60, .inl fk)), (ra, .inl (cI, 60, .inl fa)), (rb, .inl (cI, 60, .inl fb)), (rc, .inl (cI, 60, .inl fc))] H := hP
                  have hD : va_D A [(lv, .inr (1, [.ref lf, .int stl])), (lf, .inl (cI, 61, .inl ff)), (pl, .inr (2, [.ref pf, .ref pa, .ref po, .ref pr, .ref ps, .ref pd, .ref ph, .ref pq, .int (nI wo), .int (nI wr), .int sc])), (pf, .inl (cI, 24, .inl (nF bi bl v (nI (2 * k))))), (pa, .inl (cI, 24, .inl (upd bl v (nI (2 * k))))), (po, .inl (cZ, 24, .inl ov)), (pr, .inl (cI, 24, .inl rg)), (ps, .inl (cI, 24, .inl sl)), (pd, .inl (cI, 24, .inl od)), (ph, .inl (cI, 8, .inl rh)), (pq, .inl (cI, 24, .inl sh)), (r, .inr (0, [.ref rk, .ref ra, .ref rb, .ref rc, .int (nI n)])), (rk, .inl (cI, 60, .inl fk)), (ra, .inl (cI, 60, .inl fa)), (rb, .inl (cI, 60, .inl fb)), (rc, .inl (cI, 60, .inl fc))] := hD
                  refine lv_iload_n hx hb d_Plc_findTimes_60 rfl (lv_at hl 3 rfl) ?_
                  refine lv_icmp_ne (tgt := 75) hx hb d_Plc_findTimes_61 (by decide) (fun c_61 => ?_) (fun c_61 => ?_)
                  · skip
                    refine lv_iinc (v := nI (k + 1)) (lv' := [(4, .int (nI (k + 1))), (0, .ref pl), (1, .ref r), (2, .ref lv), (3, .int (nI v))]) hx hb d_Plc_findTimes_75 hl (k := 4) rfl (nI_add k 1) (by decide) rfl (fun ls hl => ?_)
                    refine lv_goto (tgt := 26) hx hb d_Plc_findTimes_78 (by decide) ?_
                    exact ih_26 q3 (k + 1) (nF bi bl v (nI (2 * k))) (upd bl v (nI (2 * k))) (by omega) (by rw [← hw, ftK]; simp only [if_pos e_42, if_neg c_61]) (by omega) _ _ (hP.sub [2, 3, 4, 5, 6, 7, 8, 9, 10, 11, 12, 13, 14, 15, 0, 1] rfl) (hD.sub [2, 3, 4, 5, 6, 7, 8, 9, 10, 11, 12, 13, 14, 15, 0, 1] (by decide) rfl) hS _ (lv_sub hl [1, 2, 3, 4, 0] rfl)
                  · skip
                    refine lv_aload_n hx hb d_Plc_findTimes_64 rfl (lv_at hl 0 rfl) ?_
                    refine lv_iload_n hx hb d_Plc_findTimes_65 rfl (lv_at hl 3 rfl) ?_
                    refine lv_iconst (v := 2) hx hb d_Plc_findTimes_66 (by decide) ?_
                    refine lv_iload hx hb d_Plc_findTimes_67 (lv_at hl 4 rfl) ?_
                    refine lv_imul hx hb d_Plc_findTimes_69 ?_
                    refine sm_re (pk_mul 2 k) ?_
                    refine lv_iconst (v := 1) hx hb d_Plc_findTimes_70 (by decide) ?_
                    refine lv_iadd hx hb d_Plc_findTimes_71 ?_
                    refine sm_re (nI_add (2 * k) 1) ?_
                    refine sm_gov (wc := [(pl, .inr (2, [.ref pf, .ref pa, .ref po, .ref pr, .ref ps, .ref pd, .ref ph, .ref pq, .int (nI wo), .int (nI wr), .int sc])), (pf, .inl (cI, 24, .inl (nF bi bl v (nI (2 * k))))), (pa, .inl (cI, 24, .inl (upd bl v (nI (2 * k))))), (po, .inl (cZ, 24, .inl ov)), (pr, .inl (cI, 24, .inl rg)), (ps, .inl (cI, 24, .inl sl)), (pd, .inl (cI, 24, .inl od)), (ph, .inl (cI, 8, .inl rh)), (pq, .inl (cI, 24, .inl sh))]) (wr := [(lv, .inr (1, [.ref lf, .int stl])), (lf, .inl (cI, 61, .inl ff)), (r, .inr (0, [.ref rk, .ref ra, .ref rb, .ref rc, .int (nI n)])), (rk, .inl (cI, 60, .inl fk)), (ra, .inl (cI, 60, .inl fa)), (rb, .inl (cI, 60, .inl fb)), (rc, .inl (cI, 60, .inl fc))]) (va_runV (As := [.int (nI v), .int (nI ((2 * k) + 1))]) (rest := []) ⟨hx, hb, hml, hown, ht⟩ ((c_Plc_note (l := l) (dC := dC) (dI := dI) (cI := cI) (cZ := cZ) (pl := pl) (pf := pf) (pa := pa) (po := po) (pr := pr) (ps := ps) (pd := pd) (ph := ph) (pq := pq) (wo := wo) (wr := wr) (fi := nF bi bl v (nI (2 * k))) (la := upd bl v (nI (2 * k))) (ov := ov) (rg := rg) (sl := sl) (od := od) (rh := rh) (sh := sh) (sc := sc) (j := v) (t := nI ((2 * k) + 1)) (by first | assumption | omega)).at H.size) (sm_cV 2 ht mw_271 mw_4 mw_268 mw_270 mp_7 rfl rfl (by decide +kernel) ⟨Nat.le_of_ble_eq_true rfl, Nat.le_of_ble_eq_true rfl⟩) (sm_preV (ci := 2) hN hK hP hD [2, 3, 4, 5, 6, 7, 8, 9, 10] rfl rfl (by decide) 2 rfl rfl) rfl rfl hl.1 rfl (lv_room (Nat.le_of_ble_eq_true rfl)) d_Plc_findTimes_72 ⟨Nat.zero_le _, Nat.zero_le _⟩) hP hD hS hA [2, 3, 4, 5, 6, 7, 8, 9, 10] [0, 1, 11, 12, 13, 14, 15] rfl rfl (by decide) (by decide) (fun w_72 H locs q_72 hP hD hS => ?_)
                    obtain rfl := q_72
                    have hP : va_P (dC, dI) smC [(lv, .inr (1, [.ref lf, .int stl])), (lf, .inl (cI, 61, .inl ff)), (r, .inr (0, [.ref rk, .ref ra, .ref rb, .ref rc, .int (nI n)])), (rk, .inl (cI, 60, .inl fk)), (ra, .inl (cI, 60, .inl fa)), (rb, .inl (cI, 60, .inl fb)), (rc, .inl (cI, 60, .inl fc)), (pl, .inr (2, [.ref pf, .ref pa, .ref po, .ref pr, .ref ps, .ref pd, .ref ph, .ref pq, .int (nI wo), .int (nI wr), .int sc])), (pf, .inl (cI, 24, .inl (nF (nF bi bl v (nI (2 * k))) (upd bl v (nI (2 * k))) v (nI ((2 * k) + 1))))), (pa, .inl (cI, 24, .inl (upd (upd bl v (nI (2 * k))) v (nI ((2 * k) + 1))))), (po, .inl (cZ, 24, .inl ov)), (pr, .inl (cI, 24, .inl rg)), (ps, .inl (cI, 24, .inl sl)), (pd, .inl (cI, 24, .inl od)), (ph, .inl (cI, 8, .inl rh)), (pq, .inl (cI, 24, .inl sh))] H := hP
                    have hD : va_D A [(lv, .inr (1, [.ref lf, .int stl])), (lf, .inl (cI, 61, .inl ff)), (r, .inr (0, [.ref rk, .ref ra, .ref rb, .ref rc, .int (nI n)])), (rk, .inl (cI, 60, .inl fk)), (ra, .inl (cI, 60, .inl fa)), (rb, .inl (cI, 60, .inl fb)), (rc, .inl (cI, 60, .inl fc)), (pl, .inr (2, [.ref pf, .ref pa, .ref po, .ref pr, .ref ps, .ref pd, .ref ph, .ref pq, .int (nI wo), .int (nI wr), .int sc])), (pf, .inl (cI, 24, .inl (nF (nF bi bl v (nI (2 * k))) (upd bl v (nI (2 * k))) v (nI ((2 * k) + 1))))), (pa, .inl (cI, 24, .inl (upd (upd bl v (nI (2 * k))) v (nI ((2 * k) + 1))))), (po, .inl (cZ, 24, .inl ov)), (pr, .inl (cI, 24, .inl rg)), (ps, .inl (cI, 24, .inl sl)), (pd, .inl (cI, 24, .inl od)), (ph, .inl (cI, 8, .inl rh)), (pq, .inl (cI, 24, .inl sh))] := hD
                    refine lv_iinc (v := nI (k + 1)) (lv' := [(4, .int (nI (k + 1))), (0, .ref pl), (1, .ref r), (2, .ref lv), (3, .int (nI v))]) hx hb d_Plc_findTimes_75 hl (k := 4) rfl (nI_add k 1) (by decide) rfl (fun ls hl => ?_)
                    refine lv_goto (tgt := 26) hx hb d_Plc_findTimes_78 (by decide) ?_
                    exact ih_26 q3 (k + 1) (nF (nF bi bl v (nI (2 * k))) (upd bl v (nI (2 * k))) v (nI ((2 * k) + 1))) (upd (upd bl v (nI (2 * k))) v (nI ((2 * k) + 1))) (by omega) (by rw [← hw, ftK]; simp only [if_pos e_42, if_pos c_61]) (by omega) _ _ (hP.sub [7, 8, 9, 10, 11, 12, 13, 14, 15, 2, 3, 4, 5, 6, 0, 1] rfl) (hD.sub [7, 8, 9, 10, 11, 12, 13, 14, 15, 2, 3, 4, 5, 6, 0, 1] (by decide) rfl) hS _ (lv_sub hl [1, 2, 3, 4, 0] rfl)
          exact loop_26 (n + 1) n 0 ai al (by omega) rfl (by omega) _ _ (hP.sub [0, 1, 2, 3, 4, 5, 6, 7, 8, 9, 10, 11, 12, 13, 14, 15] rfl) (hD.sub [0, 1, 2, 3, 4, 5, 6, 7, 8, 9, 10, 11, 12, 13, 14, 15] (by decide) rfl) hS _ (lv_sub hl [1, 2, 3, 4, 0] rfl)
        refine lv_aload_n hx hb d_Plc_findTimes_8 rfl (lv_at hl 2 rfl) ?_
        refine lv_iconst (v := 0) hx hb d_Plc_findTimes_9 (by decide) ?_
        refine lv_iload_n hx hb d_Plc_findTimes_10 rfl (lv_at hl 3 rfl) ?_
        refine sm_goi (wc := [(lv, .inr (1, [.ref lf, .int stl])), (lf, .inl (cI, 61, .inl ff))]) (wr := [(pl, .inr (2, [.ref pf, .ref pa, .ref po, .ref pr, .ref ps, .ref pd, .ref ph, .ref pq, .int (nI wo), .int (nI wr), .int sc])), (pf, .inl (cI, 24, .inl gi)), (pa, .inl (cI, 24, .inl gl)), (po, .inl (cZ, 24, .inl ov)), (pr, .inl (cI, 24, .inl rg)), (ps, .inl (cI, 24, .inl sl)), (pd, .inl (cI, 24, .inl od)), (ph, .inl (cI, 8, .inl rh)), (pq, .inl (cI, 24, .inl sh)), (r, .inr (0, [.ref rk, .ref ra, .ref rb, .ref rc, .int (nI n)])), (rk, .inl (cI, 60, .inl fk)), (ra, .inl (cI, 60, .inl fa)), (rb, .inl (cI, 60, .inl fb)), (rc, .inl (cI, 60, .inl fc))]) (va_runV (As := [.int ((0 : Int32)), .int (nI v)]) (rest := []) ⟨hx, hb, hml, hown, ht⟩ ((c_Liv_has (l := l) (dC := dC) (dI := dI) (cI := cI) (cZ := cZ) (lv := lv) (lf := lf) (ff := ff) (stl := stl) (k := (0 : Int32)) (v := nI v) ).at H.size) (sm_cV 2 ht mw_267 mw_3 mw_264 mw_265 mw_266 rfl rfl (by decide +kernel) ⟨Nat.le_of_ble_eq_true rfl, Nat.le_of_ble_eq_true rfl⟩) (sm_preV (ci := 1) hN hK hP hD [14, 15] rfl rfl (by decide) 14 rfl rfl) rfl rfl hl.1 rfl (lv_room (Nat.le_of_ble_eq_true rfl)) d_Plc_findTimes_11 ⟨Nat.zero_le _, Nat.zero_le _⟩) hP hD hS hA [14, 15] [0, 1, 2, 3, 4, 5, 6, 7, 8, 9, 10, 11, 12, 13] rfl rfl (by decide) (by decide) (fun r_11 w_11 H locs q_11 hP hD hS => ?_)
        obtain ⟨rfl, rfl⟩ := q_11
        have hP : va_P (dC, dI) smC [(pl, .inr (2, [.ref pf, .ref pa, .ref po, .ref pr, .ref ps, .ref pd, .ref ph, .ref pq, .int (nI wo), .int (nI wr), .int sc])), (pf, .inl (cI, 24, .inl gi)), (pa, .inl (cI, 24, .inl gl)), (po, .inl (cZ, 24, .inl ov)), (pr, .inl (cI, 24, .inl rg)), (ps, .inl (cI, 24, .inl sl)), (pd, .inl (cI, 24, .inl od)), (ph, .inl (cI, 8, .inl rh)), (pq, .inl (cI, 24, .inl sh)), (r, .inr (0, [.ref rk, .ref ra, .ref rb, .ref rc, .int (nI n)])), (rk, .inl (cI, 60, .inl fk)), (ra, .inl (cI, 60, .inl fa)), (rb, .inl (cI, 60, .inl fb)), (rc, .inl (cI, 60, .inl fc)), (lv, .inr (1, [.ref lf, .int stl])), (lf, .inl (cI, 61, .inl ff))] H := hP
        have hD : va_D A [(pl, .inr (2, [.ref pf, .ref pa, .ref po, .ref pr, .ref ps, .ref pd, .ref ph, .ref pq, .int (nI wo), .int (nI wr), .int sc])), (pf, .inl (cI, 24, .inl gi)), (pa, .inl (cI, 24, .inl gl)), (po, .inl (cZ, 24, .inl ov)), (pr, .inl (cI, 24, .inl rg)), (ps, .inl (cI, 24, .inl sl)), (pd, .inl (cI, 24, .inl od)), (ph, .inl (cI, 8, .inl rh)), (pq, .inl (cI, 24, .inl sh)), (r, .inr (0, [.ref rk, .ref ra, .ref rb, .ref rc, .int (nI n)])), (rk, .inl (cI, 60, .inl fk)), (ra, .inl (cI, 60, .inl fa)), (rb, .inl (cI, 60, .inl fb)), (rc, .inl (cI, 60, .inl fc)), (lv, .inr (1, [.ref lf, .int stl])), (lf, .inl (cI, 61, .inl ff))] := hD
        refine lv_if_eq (tgt := 23) hx hb d_Plc_findTimes_14 (by decide) (fun c_14 => ?_) (fun c_14 => ?_)
        · skip
          have e_14 : (hasB ff ((0 : Int32)) (nI v)) = false := b2i_eq0 c_14
          exact join_23 gi gl _ _ (by unfold ft0; simp only [e_14, if_true, if_false, Bool.false_eq_true]) (hP.sub [0, 1, 2, 3, 4, 5, 6, 7, 8, 9, 10, 11, 12, 13, 14, 15] rfl) (hD.sub [0, 1, 2, 3, 4, 5, 6, 7, 8, 9, 10, 11, 12, 13, 14, 15] (by decide) rfl) hS _ (lv_sub hl [0, 1, 2, 3] rfl)
        · skip
          have e_14 : (hasB ff ((0 : Int32)) (nI v)) = true := b2i_ne0 c_14
          refine lv_aload_n hx hb d_Plc_findTimes_17 rfl (lv_at hl 0 rfl) ?_
          refine lv_iload_n hx hb d_Plc_findTimes_18 rfl (lv_at hl 3 rfl) ?_
          refine lv_iconst (v := -1) hx hb d_Plc_findTimes_19 (by decide) ?_
          refine sm_gov (wc := [(pl, .inr (2, [.ref pf, .ref pa, .ref po, .ref pr, .ref ps, .ref pd, .ref ph, .ref pq, .int (nI wo), .int (nI wr), .int sc])), (pf, .inl (cI, 24, .inl gi)), (pa, .inl (cI, 24, .inl gl)), (po, .inl (cZ, 24, .inl ov)), (pr, .inl (cI, 24, .inl rg)), (ps, .inl (cI, 24, .inl sl)), (pd, .inl (cI, 24, .inl od)), (ph, .inl (cI, 8, .inl rh)), (pq, .inl (cI, 24, .inl sh))]) (wr := [(r, .inr (0, [.ref rk, .ref ra, .ref rb, .ref rc, .int (nI n)])), (rk, .inl (cI, 60, .inl fk)), (ra, .inl (cI, 60, .inl fa)), (rb, .inl (cI, 60, .inl fb)), (rc, .inl (cI, 60, .inl fc)), (lv, .inr (1, [.ref lf, .int stl])), (lf, .inl (cI, 61, .inl ff))]) (va_runV (As := [.int (nI v), .int ((-1 : Int32))]) (rest := []) ⟨hx, hb, hml, hown, ht⟩ ((c_Plc_note (l := l) (dC := dC) (dI := dI) (cI := cI) (cZ := cZ) (pl := pl) (pf := pf) (pa := pa) (po := po) (pr := pr) (ps := ps) (pd := pd) (ph := ph) (pq := pq) (wo := wo) (wr := wr) (fi := gi) (la := gl) (ov := ov) (rg := rg) (sl := sl) (od := od) (rh := rh) (sh := sh) (sc := sc) (j := v) (t := (-1 : Int32)) (by first | assumption | omega)).at H.size) (sm_cV 2 ht mw_271 mw_4 mw_268 mw_270 mp_7 rfl rfl (by decide +kernel) ⟨Nat.le_of_ble_eq_true rfl, Nat.le_of_ble_eq_true rfl⟩) (sm_preV (ci := 2) hN hK hP hD [0, 1, 2, 3, 4, 5, 6, 7, 8] rfl rfl (by decide) 0 rfl rfl) rfl rfl hl.1 rfl (lv_room (Nat.le_of_ble_eq_true rfl)) d_Plc_findTimes_20 ⟨Nat.zero_le _, Nat.zero_le _⟩) hP hD hS hA [0, 1, 2, 3, 4, 5, 6, 7, 8] [9, 10, 11, 12, 13, 14, 15] rfl rfl (by decide) (by decide) (fun w_20 H locs q_20 hP hD hS => ?_)
          obtain rfl := q_20
          have hP : va_P (dC, dI) smC [(r, .inr (0, [.ref rk, .ref ra, .ref rb, .ref rc, .int (nI n)])), (rk, .inl (cI, 60, .inl fk)), (ra, .inl (cI, 60, .inl fa)), (rb, .inl (cI, 60, .inl fb)), (rc, .inl (cI, 60, .inl fc)), (lv, .inr (1, [.ref lf, .int stl])), (lf, .inl (cI, 61, .inl ff)), (pl, .inr (2, [.ref pf, .ref pa, .ref po, .ref pr, .ref ps, .ref pd, .ref ph, .ref pq, .int (nI wo), .int (nI wr), .int sc])), (pf, .inl (cI, 24, .inl (nF gi gl v ((-1 : Int32))))), (pa, .inl (cI, 24, .inl (upd gl v ((-1 : Int32))))), (po, .inl (cZ, 24, .inl ov)), (pr, .inl (cI, 24, .inl rg)), (ps, .inl (cI, 24, .inl sl)), (pd, .inl (cI, 24, .inl od)), (ph, .inl (cI, 8, .inl rh)), (pq, .inl (cI, 24, .inl sh))] H := hP
          have hD : va_D A [(r, .inr (0, [.ref rk, .ref ra, .ref rb, .ref rc, .int (nI n)])), (rk, .inl (cI, 60, .inl fk)), (ra, .inl (cI, 60, .inl fa)), (rb, .inl (cI, 60, .inl fb)), (rc, .inl (cI, 60, .inl fc)), (lv, .inr (1, [.ref lf, .int stl])), (lf, .inl (cI, 61, .inl ff)), (pl, .inr (2, [.ref pf, .ref pa, .ref po, .ref pr, .ref ps, .ref pd, .ref ph, .ref pq, .int (nI wo), .int (nI wr), .int sc])), (pf, .inl (cI, 24, .inl (nF gi gl v ((-1 : Int32))))), (pa, .inl (cI, 24, .inl (upd gl v ((-1 : Int32))))), (po, .inl (cZ, 24, .inl ov)), (pr, .inl (cI, 24, .inl rg)), (ps, .inl (cI, 24, .inl sl)), (pd, .inl (cI, 24, .inl od)), (ph, .inl (cI, 8, .inl rh)), (pq, .inl (cI, 24, .inl sh))] := hD
          exact join_23 (nF gi gl v ((-1 : Int32))) (upd gl v ((-1 : Int32))) _ _ (by unfold ft0; simp only [e_14, if_true, if_false, Bool.false_eq_true]) (hP.sub [7, 8, 9, 10, 11, 12, 13, 14, 15, 0, 1, 2, 3, 4, 5, 6] rfl) (hD.sub [7, 8, 9, 10, 11, 12, 13, 14, 15, 0, 1, 2, 3, 4, 5, 6] (by decide) rfl) hS _ (lv_sub hl [0, 1, 2, 3] rfl)
  exact loop_2 25 24 0 fi la rfl rfl (by decide) _ _ (hP.sub [0, 1, 2, 3, 4, 5, 6, 7, 8, 9, 10, 11, 12, 13, 14, 15] rfl) (hD.sub [0, 1, 2, 3, 4, 5, 6, 7, 8, 9, 10, 11, 12, 13, 14, 15] (by decide) rfl) hS _ (lv_sub hl [1, 2, 3, 0] rfl)
abbrev y_Plc_findOverCall : MethodName := ⟨"ScanMill$Places", "findOverCall", "(LScanMill$Row;)V"⟩
theorem d_Plc_findOverCall_0 : decode prog_4_method_16_code 0 = .ok (.iconst 0, 1) := by decide +kernel
theorem d_Plc_findOverCall_1 : decode prog_4_method_16_code 1 = .ok (.istore_n 2, 1) := by decide +kernel
theorem d_Plc_findOverCall_2 : decode prog_4_method_16_code 2 = .ok (.iload_n 2, 1) := by decide +kernel
theorem d_Plc_findOverCall_3 : decode prog_4_method_16_code 3 = .ok (.bipush 24, 2) := by decide +kernel
theorem d_Plc_findOverCall_5 : decode prog_4_method_16_code 5 = .ok (.if_icmp .ge 81, 3) := by decide +kernel
theorem d_Plc_findOverCall_86 : decode prog_4_method_16_code 86 = .ok (.return_, 1) := by decide +kernel
theorem d_Plc_findOverCall_8 : decode prog_4_method_16_code 8 = .ok (.aload_n 0, 1) := by decide +kernel
theorem d_Plc_findOverCall_9 : decode prog_4_method_16_code 9 = .ok (.getfield 18, 3) := by decide +kernel
theorem d_Plc_findOverCall_12 : decode prog_4_method_16_code 12 = .ok (.iload_n 2, 1) := by decide +kernel
theorem d_Plc_findOverCall_13 : decode prog_4_method_16_code 13 = .ok (.iconst 0, 1) := by decide +kernel
theorem d_Plc_findOverCall_14 : decode prog_4_method_16_code 14 = .ok (.bastore, 1) := by decide +kernel
theorem d_Plc_findOverCall_15 : decode prog_4_method_16_code 15 = .ok (.iconst 0, 1) := by decide +kernel
theorem d_Plc_findOverCall_16 : decode prog_4_method_16_code 16 = .ok (.istore_n 3, 1) := by decide +kernel
theorem d_Plc_findOverCall_17 : decode prog_4_method_16_code 17 = .ok (.iload_n 3, 1) := by decide +kernel
theorem d_Plc_findOverCall_18 : decode prog_4_method_16_code 18 = .ok (.aload_n 1, 1) := by decide +kernel
theorem d_Plc_findOverCall_19 : decode prog_4_method_16_code 19 = .ok (.invokevirtual 97, 3) := by decide +kernel
theorem d_Plc_findOverCall_22 : decode prog_4_method_16_code 22 = .ok (.if_icmp .ge 58, 3) := by decide +kernel
theorem d_Plc_findOverCall_80 : decode prog_4_method_16_code 80 = .ok (.iinc 2 1, 3) := by decide +kernel
theorem d_Plc_findOverCall_83 : decode prog_4_method_16_code 83 = .ok (.goto (-81), 3) := by decide +kernel
theorem d_Plc_findOverCall_25 : decode prog_4_method_16_code 25 = .ok (.aload_n 1, 1) := by decide +kernel
theorem d_Plc_findOverCall_26 : decode prog_4_method_16_code 26 = .ok (.iload_n 3, 1) := by decide +kernel
theorem d_Plc_findOverCall_27 : decode prog_4_method_16_code 27 = .ok (.invokevirtual 107, 3) := by decide +kernel
theorem mw_279 : Cond.methodLink "ScanMill$Places" 107 ⟨"ScanMill$Row", "kindAt", "(I)I"⟩ ∈ wG := wG_t 279 (by decide +kernel) (by decide +kernel)
theorem d_Plc_findOverCall_30 : decode prog_4_method_16_code 30 = .ok (.bipush 9, 2) := by decide +kernel
theorem d_Plc_findOverCall_32 : decode prog_4_method_16_code 32 = .ok (.if_icmp .ne 42, 3) := by decide +kernel
theorem d_Plc_findOverCall_74 : decode prog_4_method_16_code 74 = .ok (.iinc 3 1, 3) := by decide +kernel
theorem d_Plc_findOverCall_77 : decode prog_4_method_16_code 77 = .ok (.goto (-60), 3) := by decide +kernel
theorem d_Plc_findOverCall_35 : decode prog_4_method_16_code 35 = .ok (.aload_n 0, 1) := by decide +kernel
theorem d_Plc_findOverCall_36 : decode prog_4_method_16_code 36 = .ok (.iload_n 2, 1) := by decide +kernel
theorem d_Plc_findOverCall_37 : decode prog_4_method_16_code 37 = .ok (.invokevirtual 110, 3) := by decide +kernel
theorem mw_283 : Cond.code ⟨"ScanMill$Places", "are", "(I)Z"⟩ prog_4_method_3_code 2 (Option.some FieldType.boolean) ∈ wG := wG_t 283 (by decide +kernel) (by decide +kernel)
theorem mw_280 : Cond.methodLink "ScanMill$Places" 110 ⟨"ScanMill$Places", "are", "(I)Z"⟩ ∈ wG := wG_t 280 (by decide +kernel) (by decide +kernel)
theorem mw_281 : Cond.instanceMethod ⟨"ScanMill$Places", "are", "(I)Z"⟩ ∈ wG := wG_t 281 (by decide +kernel) (by decide +kernel)
theorem mw_282 : Cond.selects "ScanMill$Places" ⟨"ScanMill$Places", "are", "(I)Z"⟩ ⟨"ScanMill$Places", "are", "(I)Z"⟩ ∈ wG := wG_t 282 (by decide +kernel) (by decide +kernel)
theorem d_Plc_findOverCall_40 : decode prog_4_method_16_code 40 = .ok (.ifCond .eq 34, 3) := by decide +kernel
theorem d_Plc_findOverCall_43 : decode prog_4_method_16_code 43 = .ok (.aload_n 0, 1) := by decide +kernel
theorem d_Plc_findOverCall_44 : decode prog_4_method_16_code 44 = .ok (.getfield 9, 3) := by decide +kernel
theorem d_Plc_findOverCall_47 : decode prog_4_method_16_code 47 = .ok (.iload_n 2, 1) := by decide +kernel
theorem d_Plc_findOverCall_48 : decode prog_4_method_16_code 48 = .ok (.iaload, 1) := by decide +kernel
theorem d_Plc_findOverCall_49 : decode prog_4_method_16_code 49 = .ok (.iconst 2, 1) := by decide +kernel
theorem d_Plc_findOverCall_50 : decode prog_4_method_16_code 50 = .ok (.iload_n 3, 1) := by decide +kernel
theorem d_Plc_findOverCall_51 : decode prog_4_method_16_code 51 = .ok (.imul, 1) := by decide +kernel
theorem d_Plc_findOverCall_52 : decode prog_4_method_16_code 52 = .ok (.if_icmp .gt 22, 3) := by decide +kernel
theorem d_Plc_findOverCall_55 : decode prog_4_method_16_code 55 = .ok (.aload_n 0, 1) := by decide +kernel
theorem d_Plc_findOverCall_56 : decode prog_4_method_16_code 56 = .ok (.getfield 15, 3) := by decide +kernel
theorem d_Plc_findOverCall_59 : decode prog_4_method_16_code 59 = .ok (.iload_n 2, 1) := by decide +kernel
theorem d_Plc_findOverCall_60 : decode prog_4_method_16_code 60 = .ok (.iaload, 1) := by decide +kernel
theorem d_Plc_findOverCall_61 : decode prog_4_method_16_code 61 = .ok (.iconst 2, 1) := by decide +kernel
theorem d_Plc_findOverCall_62 : decode prog_4_method_16_code 62 = .ok (.iload_n 3, 1) := by decide +kernel
theorem d_Plc_findOverCall_63 : decode prog_4_method_16_code 63 = .ok (.imul, 1) := by decide +kernel
theorem d_Plc_findOverCall_64 : decode prog_4_method_16_code 64 = .ok (.if_icmp .le 10, 3) := by decide +kernel
theorem d_Plc_findOverCall_67 : decode prog_4_method_16_code 67 = .ok (.aload_n 0, 1) := by decide +kernel
theorem d_Plc_findOverCall_68 : decode prog_4_method_16_code 68 = .ok (.getfield 18, 3) := by decide +kernel
theorem d_Plc_findOverCall_71 : decode prog_4_method_16_code 71 = .ok (.iload_n 2, 1) := by decide +kernel
theorem d_Plc_findOverCall_72 : decode prog_4_method_16_code 72 = .ok (.iconst 1, 1) := by decide +kernel
theorem d_Plc_findOverCall_73 : decode prog_4_method_16_code 73 = .ok (.bastore, 1) := by decide +kernel
set_option maxRecDepth 100000 in
set_option maxHeartbeats 4000000 in
theorem c_Plc_findOverCall {l : Launch} {dC : Nat → ClassId} {dI : Nat → Nat → Nat} {cI cZ : ClassId} {pl pf pa po pr ps pd ph pq wo wr : Nat} {fi la ov rg sl od rh sh : Nat → Int32} {sc : Int32} {r rk ra rb rc n : Nat} {fk fa fb fc : Nat → Int32} (hn : n ≤ 60) : sm_V l y_Plc_findOverCall prog_4_method_16_code 4 none (rmF 2 42) (dC, dI) smC [(cI, .int), (cZ, .boolean)] [.ref pl, .ref r] [(pl, .inr (2, [.ref pf, .ref pa, .ref po, .ref pr, .ref ps, .ref pd, .ref ph, .ref pq, .int (nI wo), .int (nI wr), .int sc])), (pf, .inl (cI, 24, .inl fi)), (pa, .inl (cI, 24, .inl la)), (po, .inl (cZ, 24, .inl ov)), (pr, .inl (cI, 24, .inl rg)), (ps, .inl (cI, 24, .inl sl)), (pd, .inl (cI, 24, .inl od)), (ph, .inl (cI, 8, .inl rh)), (pq, .inl (cI, 24, .inl sh)), (r, .inr (0, [.ref rk, .ref ra, .ref rb, .ref rc, .int (nI n)])), (rk, .inl (cI, 60, .inl fk)), (ra, .inl (cI, 60, .inl fa)), (rb, .inl (cI, 60, .inl fb)), (rc, .inl (cI, 60, .inl fc))] (fun w2 => w2 = [(pl, .inr (2, [.ref pf, .ref pa, .ref po, .ref pr, .ref ps, .ref pd, .ref ph, .ref pq, .int (nI wo), .int (nI wr), .int sc])), (pf, .inl (cI, 24, .inl fi)), (pa, .inl (cI, 24, .inl la)), (po, .inl (cZ, 24, .inl (ocO n fk fi la 24 0 ov))), (pr, .inl (cI, 24, .inl rg)), (ps, .inl (cI, 24, .inl sl)), (pd, .inl (cI, 24, .inl od)), (ph, .inl (cI, 8, .inl rh)), (pq, .inl (cI, 24, .inl sh)), (r, .inr (0, [.ref rk, .ref ra, .ref rb, .ref rc, .int (nI n)])), (rk, .inl (cI, 60, .inl fk)), (ra, .inl (cI, 60, .inl fa)), (rb, .inl (cI, 60, .inl fb)), (rc, .inl (cI, 60, .inl fc))]) := by
  refine sm_V.mk (by decide) (Nat.le_of_ble_eq_true rfl) ?_
  intro p e s m below meth c A H locs ls hx hb hr ht hown hlocks hml hnm hP hK hD hA hS hN hl
  have hl : lv_has ls 4 [(0, .ref pl), (1, .ref r)] := hl
  refine lv_iconst (v := 0) hx hb d_Plc_findOverCall_0 (by decide) ?_
  refine lv_istore_n (lv' := [(2, .int ((0 : Int32))), (0, .ref pl), (1, .ref r)]) hx hb d_Plc_findOverCall_1 rfl hl (by decide) rfl (fun ls hl => ?_)
  have loop_2 : ∀ (N_2 : Nat) (q : Nat) (v : Nat) (go : Nat → Int32), (q + v = 24) → (ocO n fk fi la q v go = ocO n fk fi la 24 0 ov) → q < N_2 → ∀ (H : Heap) (locs : List Loc), va_P (dC, dI) smC [(pl, .inr (2, [.ref pf, .ref pa, .ref po, .ref pr, .ref ps, .ref pd, .ref ph, .ref pq, .int (nI wo), .int (nI wr), .int sc])), (pf, .inl (cI, 24, .inl fi)), (pa, .inl (cI, 24, .inl la)), (po, .inl (cZ, 24, .inl go)), (pr, .inl (cI, 24, .inl rg)), (ps, .inl (cI, 24, .inl sl)), (pd, .inl (cI, 24, .inl od)), (ph, .inl (cI, 8, .inl rh)), (pq, .inl (cI, 24, .inl sh)), (r, .inr (0, [.ref rk, .ref ra, .ref rb, .ref rc, .int (nI n)])), (rk, .inl (cI, 60, .inl fk)), (ra, .inl (cI, 60, .inl fa)), (rb, .inl (cI, 60, .inl fb)), (rc, .inl (cI, 60, .inl fc))] H → va_D A [(pl, .inr (2, [.ref pf, .ref pa, .ref po, .ref pr, .ref ps, .ref pd, .ref ph, .ref pq, .int (nI wo), .int (nI wr), .int sc])), (pf, .inl (cI, 24, .inl fi)), (pa, .inl (cI, 24, .inl la)), (po, .inl (cZ, 24, .inl go)), (pr, .inl (cI, 24, .inl rg)), (ps, .inl (cI, 24, .inl sl)), (pd, .inl (cI, 24, .inl od)), (ph, .inl (cI, 8, .inl rh)), (pq, .inl (cI, 24, .inl sh)), (r, .inr (0, [.ref rk, .ref ra, .ref rb, .ref rc, .int (nI n)])), (rk, .inl (cI, 60, .inl fk)), (ra, .inl (cI, 60, .inl fa)), (rb, .inl (cI, 60, .inl fb)), (rc, .inl (cI, 60, .inl fc))] → va_S A s.heap H locs → ∀ ls : Array Slot, lv_has ls 4 [(0, .ref pl), (1, .ref r), (2, .int (nI v))] → W p l e (rmF 2 42) s m ([.ref pl, .ref r] : List Value).toArray below meth c H locs 0 0 (MQ below (va_Qv (fun w2 => w2 = [(pl, .inr (2, [.ref pf, .ref pa, .ref po, .ref pr, .ref ps, .ref pd, .ref ph, .ref pq, .int (nI wo), .int (nI wr), .int sc])), (pf, .inl (cI, 24, .inl fi)), (pa, .inl (cI, 24, .inl la)), (po, .inl (cZ, 24, .inl (ocO n fk fi la 24 0 ov))), (pr, .inl (cI, 24, .inl rg)), (ps, .inl (cI, 24, .inl sl)), (pd, .inl (cI, 24, .inl od)), (ph, .inl (cI, 8, .inl rh)), (pq, .inl (cI, 24, .inl sh)), (r, .inr (0, [.ref rk, .ref ra, .ref rb, .ref rc, .int (nI n)])), (rk, .inl (cI, 60, .inl fk)), (ra, .inl (cI, 60, .inl fa)), (rb, .inl (cI, 60, .inl fb)), (rc, .inl (cI, 60, .inl fc))]) (sm_B (dC, dI) smC [(cI, .int), (cZ, .boolean)] A) A) ([.ref pl, .ref r] : List Value).toArray s 0 0 A) (F0 m 2 ls []) := by
    intro N_2
    induction N_2 with
    | zero => intro q v go _ _ z; exact absurd z (Nat.not_lt_zero _)
    | succ N_2 ih_2 =>
      intro q v go hqv hv m_2 H locs hP hD hS ls hl
      refine lv_iload_n hx hb d_Plc_findOverCall_2 rfl (lv_at hl 2 rfl) ?_
      refine lv_bipush (v := 24) hx hb d_Plc_findOverCall_3 (by decide) ?_
      refine lv_icmp_ge (tgt := 86) hx hb d_Plc_findOverCall_5 (by decide) (fun c_5 => ?_) (fun c_5 => ?_)
      · skip
        have f_5 : 24 ≤ v := (nI_leI (a := 24) (b := v) (by first | omega | decide) (by first | omega | decide)).mp c_5
        obtain rfl : q = 0 := by omega
        refine sm_rv (ws := [(pl, .inr (2, [.ref pf, .ref pa, .ref po, .ref pr, .ref ps, .ref pd, .ref ph, .ref pq, .int (nI wo), .int (nI wr), .int sc])), (pf, .inl (cI, 24, .inl fi)), (pa, .inl (cI, 24, .inl la)), (po, .inl (cZ, 24, .inl go)), (pr, .inl (cI, 24, .inl rg)), (ps, .inl (cI, 24, .inl sl)), (pd, .inl (cI, 24, .inl od)), (ph, .inl (cI, 8, .inl rh)), (pq, .inl (cI, 24, .inl sh)), (r, .inr (0, [.ref rk, .ref ra, .ref rb, .ref rc, .int (nI n)])), (rk, .inl (cI, 60, .inl fk)), (ra, .inl (cI, 60, .inl fa)), (rb, .inl (cI, 60, .inl fb)), (rc, .inl (cI, 60, .inl fc))]) hx hb hr hlocks hK (hP.sub [0, 1, 2, 3, 4, 5, 6, 7, 8, 9, 10, 11, 12, 13] rfl) (hD.sub [0, 1, 2, 3, 4, 5, 6, 7, 8, 9, 10, 11, 12, 13] (by decide) rfl) hS ?_ d_Plc_findOverCall_86
        show _ = _
        rw [← hv]; rfl
      · skip
        have f_5 : ¬ 24 ≤ v := fun z => c_5 ((nI_leI (a := 24) (b := v) (by first | omega | decide) (by first | omega | decide)).mpr z)
        obtain ⟨q1, rfl⟩ : ∃ z, q = z + 1 := ⟨q - 1, by omega⟩
        refine lv_aload_n hx hb d_Plc_findOverCall_8 rfl (lv_at hl 0 rfl) ?_
        refine va_get (D := (dC, dI)) (ci := 2) (v := .ref po) (C := R_Plc) (T := T_Plc) (N := 11) hx hb ht i_Plc hown hK hP 0 rfl rfl 2 (by decide) (ht _ mw_67) (fun _ h9 => h9) rfl d_Plc_findOverCall_9 ?_
        refine lv_iload_n hx hb d_Plc_findOverCall_12 rfl (lv_at hl 2 rfl) ?_
        refine lv_iconst (v := 0) hx hb d_Plc_findOverCall_13 (by decide) ?_
        refine sm_zast (j := v) hx hb hK hP hD hS 3 1 rfl rfl (vp_in_nI (by first | omega | assumption) (by first | decide | omega)) (nI_clamp (by first | omega | (have := sm_lt31; omega))) (by decide) d_Plc_findOverCall_14 (fun H locs hP hD hS => ?_)
        have hP : va_P (dC, dI) smC [(pl, .inr (2, [.ref pf, .ref pa, .ref po, .ref pr, .ref ps, .ref pd, .ref ph, .ref pq, .int (nI wo), .int (nI wr), .int sc])), (pf, .inl (cI, 24, .inl fi)), (pa, .inl (cI, 24, .inl la)), (po, .inl (cZ, 24, .inl (upd go v ((0 : Int32))))), (pr, .inl (cI, 24, .inl rg)), (ps, .inl (cI, 24, .inl sl)), (pd, .inl (cI, 24, .inl od)), (ph, .inl (cI, 8, .inl rh)), (pq, .inl (cI, 24, .inl sh)), (r, .inr (0, [.ref rk, .ref ra, .ref rb, .ref rc, .int (nI n)])), (rk, .inl (cI, 60, .inl fk)), (ra, .inl (cI, 60, .inl fa)), (rb, .inl (cI, 60, .inl fb)), (rc, .inl (cI, 60, .inl fc))] H := hP
        have hD : va_D A [(pl, .inr (2, [.ref pf, .ref pa, .ref po, .ref pr, .ref ps, .ref pd, .ref ph, .ref pq, .int (nI wo), .int (nI wr), .int sc])), (pf, .inl (cI, 24, .inl fi)), (pa, .inl (cI, 24, .inl la)), (po, .inl (cZ, 24, .inl (upd go v ((0 : Int32))))), (pr, .inl (cI, 24, .inl rg)), (ps, .inl (cI, 24, .inl sl)), (pd, .inl (cI, 24, .inl od)), (ph, .inl (cI, 8, .inl rh)), (pq, .inl (cI, 24, .inl sh)), (r, .inr (0, [.ref rk, .ref ra, .ref rb, .ref rc, .int (nI n)])), (rk, .inl (cI, 60, .inl fk)), (ra, .inl (cI, 60, .inl fa)), (rb, .inl (cI, 60, .inl fb)), (rc, .inl (cI, 60, .inl fc))] := hD
        refine lv_iconst (v := 0) hx hb d_Plc_findOverCall_15 (by decide) ?_
        refine lv_istore_n (lv' := [(3, .int ((0 : Int32))), (0, .ref pl), (1, .ref r), (2, .int (nI v))]) hx hb d_Plc_findOverCall_16 rfl hl (by decide) rfl (fun ls hl => ?_)
        have loop_17 : ∀ (N_17 : Nat) (q2 : Nat) (k : Nat) (bo : Nat → Int32), (q2 + k = n) → (ocK n fk fi la v q2 k bo = ocK n fk fi la v n 0 (upd go v 0)) → q2 < N_17 → ∀ (H : Heap) (locs : List Loc), va_P (dC, dI) smC [(pl, .inr (2, [.ref pf, .ref pa, .ref po, .ref pr, .ref ps, .ref pd, .ref ph, .ref pq, .int (nI wo), .int (nI wr), .int sc])), (pf, .inl (cI, 24, .inl fi)), (pa, .inl (cI, 24, .inl la)), (po, .inl (cZ, 24, .inl bo)), (pr, .inl (cI, 24, .inl rg)), (ps, .inl (cI, 24, .inl sl)), (pd, .inl (cI, 24, .inl od)), (ph, .inl (cI, 8, .inl rh)), (pq, .inl (cI, 24, .inl sh)), (r, .inr (0, [.ref rk, .ref ra, .ref rb, .ref rc, .int (nI n)])), (rk, .inl (cI, 60, .inl fk)), (ra, .inl (cI, 60, .inl fa)), (rb, .inl (cI, 60, .inl fb)), (rc, .inl (cI, 60, .inl fc))] H → va_D A [(pl, .inr (2, [.ref pf, .ref pa, .ref po, .ref pr, .ref ps, .ref pd, .ref ph, .ref pq, .int (nI wo), .int (nI wr), .int sc])), (pf, .inl (cI, 24, .inl fi)), (pa, .inl (cI, 24, .inl la)), (po, .inl (cZ, 24, .inl bo)), (pr, .inl (cI, 24, .inl rg)), (ps, .inl (cI, 24, .inl sl)), (pd, .inl (cI, 24, .inl od)), (ph, .inl (cI, 8, .inl rh)), (pq, .inl (cI, 24, .inl sh)), (r, .inr (0, [.ref rk, .ref ra, .ref rb, .ref rc, .int (nI n)])), (rk, .inl (cI, 60, .inl fk)), (ra, .inl (cI, 60, .inl fa)), (rb, .inl (cI, 60, .inl fb)), (rc, .inl (cI, 60, .inl fc))] → va_S A s.heap H locs → ∀ ls : Array Slot, lv_has ls 4 [(0, .ref pl), (1, .ref r), (2, .int (nI v)), (3, .int (nI k))] → W p l e (rmF 2 42) s m ([.ref pl, .ref r] : List Value).toArray below meth c H locs 0 0 (MQ below (va_Qv (fun w2 => w2 = [(pl, .inr (2, [.ref pf, .ref pa, .ref po, .ref pr, .ref ps, .ref pd, .ref ph, .ref pq, .int (nI wo), .int (nI wr), .int sc])), (pf, .inl (cI, 24, .inl fi)), (pa, .inl (cI, 24, .inl la)), (po, .inl (cZ, 24, .inl (ocO n fk fi la 24 0 ov))), (pr, .inl (cI, 24, .inl rg)), (ps, .inl (cI, 24, .inl sl)), (pd, .inl (cI, 24, .inl od)), (ph, .inl (cI, 8, .inl rh)), (pq, .inl (cI, 24, .inl sh)), (r, .inr (0, [.ref rk, .ref ra, .ref rb, .ref rc, .int (nI n)])), (rk, .inl (cI, 60, .inl fk)), (ra, .inl (cI, 60, .inl fa)), (rb, .inl (cI, 60, .inl fb)), (rc, .inl (cI, 60, .inl fc))]) (sm_B (dC, dI) smC [(cI, .int), (cZ, .boolean)] A) A) ([.ref pl, .ref r] : List Value).toArray s 0 0 A) (F0 m 17 ls []) := by
          intro N_17
          induction N_17 with
          | zero => intro q2 k bo _ _ z; exact absurd z (Nat.not_lt_zero _)
          | succ N_17 ih_17 =>
            intro q2 k bo hqk hw m_17 H locs hP hD hS ls hl
            refine lv_iload_n hx hb d_Plc_findOverCall_17 rfl (lv_at hl 3 rfl) ?_
            refine lv_aload_n hx hb d_Plc_findOverCall_18 rfl (lv_at hl 1 rfl) ?_
            refine sm_goi (wc := [(r, .inr (0, [.ref rk, .ref ra, .ref rb, .ref rc, .int (nI n)])), (rk, .inl (cI, 60, .inl fk)), (ra, .inl (cI, 60, .inl fa)), (rb, .inl (cI, 60, .inl fb)), (rc, .inl (cI, 60, .inl fc))]) (wr := [(pl, .inr (2, [.ref pf, .ref pa, .ref po, .ref pr, .ref ps, .ref pd, .ref ph, .ref pq, .int (nI wo), .int (nI wr), .int sc])), (pf, .inl (cI, 24, .inl fi)), (pa, .inl (cI, 24, .inl la)), (po, .inl (cZ, 24, .inl bo)), (pr, .inl (cI, 24, .inl rg)), (ps, .inl (cI, 24, .inl sl)), (pd, .inl (cI, 24, .inl od)), (ph, .inl (cI, 8, .inl rh)), (pq, .inl (cI, 24, .inl sh))]) (va_runV (As := []) (rest := [.int (nI k)]) ⟨hx, hb, hml, hown, ht⟩ ((c_Row_size (l := l) (dC := dC) (dI := dI) (cI := cI) (cZ := cZ) (r := r) (rk := rk) (ra := ra) (rb := rb) (rc := rc) (n := n) (fk := fk) (fa := fa) (fb := fb) (fc := fc) ).at H.size) (sm_cV 0 ht mw_182 mw_2 mw_273 mw_180 mw_181 rfl rfl (by decide +kernel) ⟨Nat.le_of_ble_eq_true rfl, Nat.le_of_ble_eq_true rfl⟩) (sm_preV (ci := 0) hN hK hP hD [9, 10, 11, 12, 13] rfl rfl (by decide) 9 rfl rfl) rfl rfl hl.1 rfl (lv_room (Nat.le_of_ble_eq_true rfl)) d_Plc_findOverCall_19 ⟨Nat.zero_le _, Nat.zero_le _⟩) hP hD hS hA [9, 10, 11, 12, 13] [0, 1, 2, 3, 4, 5, 6, 7, 8] rfl rfl (by decide) (by decide) (fun r_19 w_19 H locs q_19 hP hD hS => ?_)
            obtain ⟨rfl, rfl⟩ := q_19
            have hP : va_P (dC, dI) smC [(pl, .inr (2, [.ref pf, .ref pa, .ref po, .ref pr, .ref ps, .ref pd, .ref ph, .ref pq, .int (nI wo), .int (nI wr), .int sc])), (pf, .inl (cI, 24, .inl fi)), (pa, .inl (cI, 24, .inl la)), (po, .inl (cZ, 24, .inl bo)), (pr, .inl (cI, 24, .inl rg)), (ps, .inl (cI, 24, .inl sl)), (pd, .inl (cI, 24, .inl od)), (ph, .inl (cI, 8, .inl rh)), (pq, .inl (cI, 24, .inl sh)), (r, .inr (0, [.ref rk, .ref ra, .ref rb, .ref rc, .int (nI n)])), (rk, .inl (cI, 60, .inl fk)), (ra, .inl (cI, 60, .inl fa)), (rb, .inl (cI, 60, .inl fb)), (rc, .inl (cI, 60, .inl fc))] H := hP
            have hD : va_D A [(pl, .inr (2, [.ref pf, .ref pa, .ref po, .ref pr, .ref ps, .ref pd, .ref ph, .ref pq, .int (nI wo), .int (nI wr), .int sc])), (pf, .inl (cI, 24, .inl fi)), (pa, .inl (cI, 24, .inl la)), (po, .inl (cZ, 24, .inl bo)), (pr, .inl (cI, 24, .inl rg)), (ps, .inl (cI, 24, .inl sl)), (pd, .inl (cI, 24, .inl od)), (ph, .inl (cI, 8, .inl rh)), (pq, .inl (cI, 24, .inl sh)), (r, .inr (0, [.ref rk, .ref ra, .ref rb, .ref rc, .int (nI n)])), (rk, .inl (cI, 60, .inl fk)), (ra, .inl (cI, 60, .inl fa)), (rb, .inl (cI, 60, .inl fb)), (rc, .inl (cI, 60, .inl fc))] := hD
            refine lv_icmp_ge (tgt := 80) hx hb d_Plc_findOverCall_22 (by decide) (fun c_22 => ?_) (fun c_22 => ?_)
            · skip
              have f_22 : n ≤ k := (nI_leI (a := n) (b := k) (by first | omega | decide) (by first | omega | decide)).mp c_22
              obtain rfl : q2 = 0 := by omega
              refine lv_iinc (v := nI (v + 1)) (lv' := [(2, .int (nI (v + 1))), (0, .ref pl), (1, .ref r), (3, .int (nI k))]) hx hb d_Plc_findOverCall_80 hl (k := 2) rfl (nI_add v 1) (by decide) rfl (fun ls hl => ?_)
              refine lv_goto (tgt := 2) hx hb d_Plc_findOverCall_83 (by decide) ?_
              exact ih_2 q1 (v + 1) bo (by omega) (by rw [← hv, ocO, ← hw]; rfl) (by omega) _ _ (hP.sub [0, 1, 2, 3, 4, 5, 6, 7, 8, 9, 10, 11, 12, 13] rfl) (hD.sub [0, 1, 2, 3, 4, 5, 6, 7, 8, 9, 10, 11, 12, 13] (by decide) rfl) hS _ (lv_sub hl [1, 2, 0] rfl)
            · skip
              have f_22 : ¬ n ≤ k := fun z => c_22 ((nI_leI (a := n) (b := k) (by first | omega | decide) (by first | omega | decide)).mpr z)
              obtain ⟨q3, rfl⟩ : ∃ z, q2 = z + 1 := ⟨q2 - 1, by omega⟩
              refine lv_aload_n hx hb d_Plc_findOverCall_25 rfl (lv_at hl 1 rfl) ?_
              refine lv_iload_n hx hb d_Plc_findOverCall_26 rfl (lv_at hl 3 rfl) ?_
              refine sm_goi (wc := [(r, .inr (0, [.ref rk, .ref ra, .ref rb, .ref rc, .int (nI n)])), (rk, .inl (cI, 60, .inl fk)), (ra, .inl (cI, 60, .inl fa)), (rb, .inl (cI, 60, .inl fb)), (rc, .inl (cI, 60, .inl fc))]) (wr := [(pl, .inr (2, [.ref pf, .ref pa, .ref po, .ref pr, .ref ps, .ref pd, .ref ph, .ref pq, .int (nI wo), .int (nI wr), .int sc])), (pf, .inl (cI, 24, .inl fi)), (pa, .inl (cI, 24, .inl la)), (po, .inl (cZ, 24, .inl bo)), (pr, .inl (cI, 24, .inl rg)), (ps, .inl (cI, 24, .inl sl)), (pd, .inl (cI, 24, .inl od)), (ph, .inl (cI, 8, .inl rh)), (pq, .inl (cI, 24, .inl sh))]) (va_runV (As := [.int (nI k)]) (rest := []) ⟨hx, hb, hml, hown, ht⟩ ((c_Row_kindAt (l := l) (dC := dC) (dI := dI) (cI := cI) (cZ := cZ) (r := r) (rk := rk) (ra := ra) (rb := rb) (rc := rc) (n := n) (fk := fk) (fa := fa) (fb := fb) (fc := fc) (k := nI k) (by first | assumption | omega)).at H.size) (sm_cV 1 ht mw_217 mw_2 mw_279 mw_215 mw_216 rfl rfl (by decide +kernel) ⟨Nat.le_of_ble_eq_true rfl, Nat.le_of_ble_eq_true rfl⟩) (sm_preV (ci := 0) hN hK hP hD [9, 10, 11, 12, 13] rfl rfl (by decide) 9 rfl rfl) rfl rfl hl.1 rfl (lv_room (Nat.le_of_ble_eq_true rfl)) d_Plc_findOverCall_27 ⟨Nat.zero_le _, Nat.zero_le _⟩) hP hD hS hA [9, 10, 11, 12, 13] [0, 1, 2, 3, 4, 5, 6, 7, 8] rfl rfl (by decide) (by decide) (fun r_27 w_27 H locs q_27 hP hD hS => ?_)
              obtain ⟨rfl, rfl⟩ := q_27
              have hP : va_P (dC, dI) smC [(pl, .inr (2, [.ref pf, .ref pa, .ref po, .ref pr, .ref ps, .ref pd, .ref ph, .ref pq, .int (nI wo), .int (nI wr), .int sc])), (pf, .inl (cI, 24, .inl fi)), (pa, .inl (cI, 24, .inl la)), (po, .inl (cZ, 24, .inl bo)), (pr, .inl (cI, 24, .inl rg)), (ps, .inl (cI, 24, .inl sl)), (pd, .inl (cI, 24, .inl od)), (ph, .inl (cI, 8, .inl rh)), (pq, .inl (cI, 24, .inl sh)), (r, .inr (0, [.ref rk, .ref ra, .ref rb, .ref rc, .int (nI n)])), (rk, .inl (cI, 60, .inl fk)), (ra, .inl (cI, 60, .inl fa)), (rb, .inl (cI, 60, .inl fb)), (rc, .inl (cI, 60, .inl fc))] H := hP
              have hD : va_D A [(pl, .inr (2, [.ref pf, .ref pa, .ref po, .ref pr, .ref ps, .ref pd, .ref ph, .ref pq, .int (nI wo), .int (nI wr), .int sc])), (pf, .inl (cI, 24, .inl fi)), (pa, .inl (cI, 24, .inl la)), (po, .inl (cZ, 24, .inl bo)), (pr, .inl (cI, 24, .inl rg)), (ps, .inl (cI, 24, .inl sl)), (pd, .inl (cI, 24, .inl od)), (ph, .inl (cI, 8, .inl rh)), (pq, .inl (cI, 24, .inl sh)), (r, .inr (0, [.ref rk, .ref ra, .ref rb, .ref rc, .int (nI n)])), (rk, .inl (cI, 60, .inl fk)), (ra, .inl (cI, 60, .inl fa)), (rb, .inl (cI, 60, .inl fb)), (rc, .inl (cI, 60, .inl fc))] := hD
              refine lv_bipush (v := 9) hx hb d_Plc_findOverCall_30 (by decide) ?_
              refine lv_icmp_ne (tgt := 74) hx hb d_Plc_findOverCall_32 (by decide) (fun c_32 => ?_) (fun c_32 => ?_)
              · skip
                refine lv_iinc (v := nI (k + 1)) (lv' := [(3, .int (nI (k + 1))), (0, .ref pl), (1, .ref r), (2, .int (nI v))]) hx hb d_Plc_findOverCall_74 hl (k := 3) rfl (nI_add k 1) (by decide) rfl (fun ls hl => ?_)
                refine lv_goto (tgt := 17) hx hb d_Plc_findOverCall_77 (by decide) ?_
                exact ih_17 q3 (k + 1) bo (by omega) (by rw [← hw, ocK, if_neg (fun z => c_32 z.1)]) (by omega) _ _ (hP.sub [0, 1, 2, 3, 4, 5, 6, 7, 8, 9, 10, 11, 12, 13] rfl) (hD.sub [0, 1, 2, 3, 4, 5, 6, 7, 8, 9, 10, 11, 12, 13] (by decide) rfl) hS _ (lv_sub hl [1, 2, 3, 0] rfl)
              · skip
                refine lv_aload_n hx hb d_Plc_findOverCall_35 rfl (lv_at hl 0 rfl) ?_
                refine lv_iload_n hx hb d_Plc_findOverCall_36 rfl (lv_at hl 2 rfl) ?_
                refine sm_goi (wc := [(pl, .inr (2, [.ref pf, .ref pa, .ref po, .ref pr, .ref ps, .ref pd, .ref ph, .ref pq, .int (nI wo), .int (nI wr), .int sc])), (pf, .inl (cI, 24, .inl fi)), (pa, .inl (cI, 24, .inl la)), (po, .inl (cZ, 24, .inl bo)), (pr, .inl (cI, 24, .inl rg)), (ps, .inl (cI, 24, .inl sl)), (pd, .inl (cI, 24, .inl od)), (ph, .inl (cI, 8, .inl rh)), (pq, .inl (cI, 24, .inl sh))]) (wr := [(r, .inr (0, [.ref rk, .ref ra, .ref rb, .ref rc, .int (nI n)])), (rk, .inl (cI, 60, .inl fk)), (ra, .inl (cI, 60, .inl fa)), (rb, .inl (cI, 60, .inl fb)), (rc, .inl (cI, 60, .inl fc))]) (va_runV (As := [.int (nI v)]) (rest := []) ⟨hx, hb, hml, hown, ht⟩ ((c_Plc_are (l := l) (dC := dC) (dI := dI) (cI := cI) (cZ := cZ) (pl := pl) (pf := pf) (pa := pa) (po := po) (pr := pr) (ps := ps) (pd := pd) (ph := ph) (pq := pq) (wo := wo) (wr := wr) (fi := fi) (la := la) (ov := bo) (rg := rg) (sl := sl) (od := od) (rh := rh) (sh := sh) (sc := sc) (v := nI v) ).at H.size) (sm_cV 1 ht mw_283 mw_4 mw_280 mw_281 mw_282 rfl rfl (by decide +kernel) ⟨Nat.le_of_ble_eq_true rfl, Nat.le_of_ble_eq_true rfl⟩) (sm_preV (ci := 2) hN hK hP hD [0, 1, 2, 3, 4, 5, 6, 7, 8] rfl rfl (by decide) 0 rfl rfl) rfl rfl hl.1 rfl (lv_room (Nat.le_of_ble_eq_true rfl)) d_Plc_findOverCall_37 ⟨Nat.zero_le _, Nat.zero_le _⟩) hP hD hS hA [0, 1, 2, 3, 4, 5, 6, 7, 8] [9, 10, 11, 12, 13] rfl rfl (by decide) (by decide) (fun r_37 w_37 H locs q_37 hP hD hS => ?_)
                obtain ⟨rfl, rfl⟩ := q_37
                have hP : va_P (dC, dI) smC [(r, .inr (0, [.ref rk, .ref ra, .ref rb, .ref rc, .int (nI n)])), (rk, .inl (cI, 60, .inl fk)), (ra, .inl (cI, 60, .inl fa)), (rb, .inl (cI, 60, .inl fb)), (rc, .inl (cI, 60, .inl fc)), (pl, .inr (2, [.ref pf, .ref pa, .ref po, .ref pr, .ref ps, .ref pd, .ref ph, .ref pq, .int (nI wo), .int (nI wr), .int sc])), (pf, .inl (cI, 24, .inl fi)), (pa, .inl (cI, 24, .inl la)), (po, .inl (cZ, 24, .inl bo)), (pr, .inl (cI, 24, .inl rg)), (ps, .inl (cI, 24, .inl sl)), (pd, .inl (cI, 24, .inl od)), (ph, .inl (cI, 8, .inl rh)), (pq, .inl (cI, 24, .inl sh))] H := hP
                have hD : va_D A [(r, .inr (0, [.ref rk, .ref ra, .ref rb, .ref rc, .int (nI n)])), (rk, .inl (cI, 60, .inl fk)), (ra, .inl (cI, 60, .inl fa)), (rb, .inl (cI, 60, .inl fb)), (rc, .inl (cI, 60, .inl fc)), (pl, .inr (2, [.ref pf, .ref pa, .ref po, .ref pr, .ref ps, .ref pd, .ref ph, .ref pq, .int (nI wo), .int (nI wr), .int sc])), (pf, .inl (cI, 24, .inl fi)), (pa, .inl (cI, 24, .inl la)), (po, .inl (cZ, 24, .inl bo)), (pr, .inl (cI, 24, .inl rg)), (ps, .inl (cI, 24, .inl sl)), (pd, .inl (cI, 24, .inl od)), (ph, .inl (cI, 8, .inl rh)), (pq, .inl (cI, 24, .inl sh))] := hD
                refine lv_if_eq (tgt := 74) hx hb d_Plc_findOverCall_40 (by decide) (fun c_40 => ?_) (fun c_40 => ?_)
                · skip
                  have e_40 : (arB la (nI v)) = false := b2i_eq0 c_40
                  refine lv_iinc (v := nI (k + 1)) (lv' := [(3, .int (nI (k + 1))), (0, .ref pl), (1, .ref r), (2, .int (nI v))]) hx hb d_Plc_findOverCall_74 hl (k := 3) rfl (nI_add k 1) (by decide) rfl (fun ls hl => ?_)
                  refine lv_goto (tgt := 17) hx hb d_Plc_findOverCall_77 (by decide) ?_
                  exact ih_17 q3 (k + 1) bo (by omega) (by rw [← hw, ocK, if_neg (fun z => by rw [z.2.1] at e_40; cases e_40)]) (by omega) _ _ (hP.sub [5, 6, 7, 8, 9, 10, 11, 12, 13, 0, 1, 2, 3, 4] rfl) (hD.sub [5, 6, 7, 8, 9, 10, 11, 12, 13, 0, 1, 2, 3, 4] (by decide) rfl) hS _ (lv_sub hl [1, 2, 3, 0] rfl)
                · skip
                  have e_40 : (arB la (nI v)) = true := b2i_ne0 c_40
                  refine lv_aload_n hx hb d_Plc_findOverCall_43 rfl (lv_at hl 0 rfl) ?_
                  refine va_get (D := (dC, dI)) (ci := 2) (v := .ref pf) (C := R_Plc) (T := T_Plc) (N := 11) hx hb ht i_Plc hown hK hP 5 rfl rfl 0 (by decide) (ht _ mw_65) (fun _ h9 => h9) rfl d_Plc_findOverCall_44 ?_
                  refine lv_iload_n hx hb d_Plc_findOverCall_47 rfl (lv_at hl 2 rfl) ?_
                  refine sm_iald (j := v) hx hb hK hP 6 0 rfl rfl (vp_in_nI (by first | omega | assumption) (by first | decide | omega)) (nI_clamp (by first | omega | (have := sm_lt31; omega))) d_Plc_findOverCall_48 ?_
                  refine lv_iconst (v := 2) hx hb d_Plc_findOverCall_49 (by decide) ?_
                  refine lv_iload_n hx hb d_Plc_findOverCall_50 rfl (lv_at hl 3 rfl) ?_
                  refine lv_imul hx hb d_Plc_findOverCall_51 ?_
                  refine sm_re (pk_mul 2 k) ?_
                  refine lv_icmp_gt (tgt := 74) hx hb d_Plc_findOverCall_52 (by decide) (fun c_52 => ?_) (fun c_52 => ?_)
                  · skip
                    refine lv_iinc (v := nI (k + 1)) (lv' := [(3, .int (nI (k + 1))), (0, .ref pl), (1, .ref r), (2, .int (nI v))]) hx hb d_Plc_findOverCall_74 hl (k := 3) rfl (nI_add k 1) (by decide) rfl (fun ls hl => ?_)
                    refine lv_goto (tgt := 17) hx hb d_Plc_findOverCall_77 (by decide) ?_
                    exact ih_17 q3 (k + 1) bo (by omega) (by rw [← hw, ocK, if_neg (fun z => z.2.2.1 c_52)]) (by omega) _ _ (hP.sub [5, 6, 7, 8, 9, 10, 11, 12, 13, 0, 1, 2, 3, 4] rfl) (hD.sub [5, 6, 7, 8, 9, 10, 11, 12, 13, 0, 1, 2, 3, 4] (by decide) rfl) hS _ (lv_sub hl [1, 2, 3, 0] rfl)
                  · skip
                    refine lv_aload_n hx hb d_Plc_findOverCall_55 rfl (lv_at hl 0 rfl) ?_
                    refine va_get (D := (dC, dI)) (ci := 2) (v := .ref pa) (C := R_Plc) (T := T_Plc) (N := 11) hx hb ht i_Plc hown hK hP 5 rfl rfl 1 (by decide) (ht _ mw_66) (fun _ h9 => h9) rfl d_Plc_findOverCall_56 ?_
                    refine lv_iload_n hx hb d_Plc_findOverCall_59 rfl (lv_at hl 2 rfl) ?_
                    refine sm_iald (j := v) hx hb hK hP 7 0 rfl rfl (vp_in_nI (by first | omega | assumption) (by first | decide | omega)) (nI_clamp (by first | omega | (have := sm_lt31; omega))) d_Plc_findOverCall_60 ?_
                    refine lv_iconst (v := 2) hx hb d_Plc_findOverCall_61 (by decide) ?_
                    refine lv_iload_n hx hb d_Plc_findOverCall_62 rfl (lv_at hl 3 rfl) ?_
                    refine lv_imul hx hb d_Plc_findOverCall_63 ?_
                    refine sm_re (pk_mul 2 k) ?_
                    refine lv_icmp_le (tgt := 74) hx hb d_Plc_findOverCall_64 (by decide) (fun c_64 => ?_) (fun c_64 => ?_)
                    · skip
                      refine lv_iinc (v := nI (k + 1)) (lv' := [(3, .int (nI (k + 1))), (0, .ref pl), (1, .ref r), (2, .int (nI v))]) hx hb d_Plc_findOverCall_74 hl (k := 3) rfl (nI_add k 1) (by decide) rfl (fun ls hl => ?_)
                      refine lv_goto (tgt := 17) hx hb d_Plc_findOverCall_77 (by decide) ?_
                      exact ih_17 q3 (k + 1) bo (by omega) (by rw [← hw, ocK, if_neg (fun z => z.2.2.2 c_64)]) (by omega) _ _ (hP.sub [5, 6, 7, 8, 9, 10, 11, 12, 13, 0, 1, 2, 3, 4] rfl) (hD.sub [5, 6, 7, 8, 9, 10, 11, 12, 13, 0, 1, 2, 3, 4] (by decide) rfl) hS _ (lv_sub hl [1, 2, 3, 0] rfl)
                    · skip
                      refine lv_aload_n hx hb d_Plc_findOverCall_67 rfl (lv_at hl 0 rfl) ?_
                      refine va_get (D := (dC, dI)) (ci := 2) (v := .ref po) (C := R_Plc) (T := T_Plc) (N := 11) hx hb ht i_Plc hown hK hP 5 rfl rfl 2 (by decide) (ht _ mw_67) (fun _ h9 => h9) rfl d_Plc_findOverCall_68 ?_
                      refine lv_iload_n hx hb d_Plc_findOverCall_71 rfl (lv_at hl 2 rfl) ?_
                      refine lv_iconst (v := 1) hx hb d_Plc_findOverCall_72 (by decide) ?_
                      refine sm_zast (j := v) hx hb hK hP hD hS 8 1 rfl rfl (vp_in_nI (by first | omega | assumption) (by first | decide | omega)) (nI_clamp (by first | omega | (have := sm_lt31; omega))) (by decide) d_Plc_findOverCall_73 (fun H locs hP hD hS => ?_)
                      have hP : va_P (dC, dI) smC [(r, .inr (0, [.ref rk, .ref ra, .ref rb, .ref rc, .int (nI n)])), (rk, .inl (cI, 60, .inl fk)), (ra, .inl (cI, 60, .inl fa)), (rb, .inl (cI, 60, .inl fb)), (rc, .inl (cI, 60, .inl fc)), (pl, .inr (2, [.ref pf, .ref pa, .ref po, .ref pr, .ref ps, .ref pd, .ref ph, .ref pq, .int (nI wo), .int (nI wr), .int sc])), (pf, .inl (cI, 24, .inl fi)), (pa, .inl (cI, 24, .inl la)), (po, .inl (cZ, 24, .inl (upd bo v ((1 : Int32))))), (pr, .inl (cI, 24, .inl rg)), (ps, .inl (cI, 24, .inl sl)), (pd, .inl (cI, 24, .inl od)), (ph, .inl (cI, 8, .inl rh)), (pq, .inl (cI, 24, .inl sh))] H := hP
                      have hD : va_D A [(r, .inr (0, [.ref rk, .ref ra, .ref rb, .ref rc, .int (nI n)])), (rk, .inl (cI, 60, .inl fk)), (ra, .inl (cI, 60, .inl fa)), (rb, .inl (cI, 60, .inl fb)), (rc, .inl (cI, 60, .inl fc)), (pl, .inr (2, [.ref pf, .ref pa, .ref po, .ref pr, .ref ps, .ref pd, .ref ph, .ref pq, .int (nI wo), .int (nI wr), .int sc])), (pf, .inl (cI, 24, .inl fi)), (pa, .inl (cI, 24, .inl la)), (po, .inl (cZ, 24, .inl (upd bo v ((1 : Int32))))), (pr, .inl (cI, 24, .inl rg)), (ps, .inl (cI, 24, .inl sl)), (pd, .inl (cI, 24, .inl od)), (ph, .inl (cI, 8, .inl rh)), (pq, .inl (cI, 24, .inl sh))] := hD
                      refine lv_iinc (v := nI (k + 1)) (lv' := [(3, .int (nI (k + 1))), (0, .ref pl), (1, .ref r), (2, .int (nI v))]) hx hb d_Plc_findOverCall_74 hl (k := 3) rfl (nI_add k 1) (by decide) rfl (fun ls hl => ?_)
                      refine lv_goto (tgt := 17) hx hb d_Plc_findOverCall_77 (by decide) ?_
                      exact ih_17 q3 (k + 1) (upd bo v ((1 : Int32))) (by omega) (by rw [← hw, ocK, if_pos ⟨c_32, e_40, c_52, c_64⟩]) (by omega) _ _ (hP.sub [5, 6, 7, 8, 9, 10, 11, 12, 13, 0, 1, 2, 3, 4] rfl) (hD.sub [5, 6, 7, 8, 9, 10, 11, 12, 13, 0, 1, 2, 3, 4] (by decide) rfl) hS _ (lv_sub hl [1, 2, 3, 0] rfl)
        exact loop_17 (n + 1) n 0 (upd go v ((0 : Int32))) (by omega) rfl (by omega) _ _ (hP.sub [0, 1, 2, 3, 4, 5, 6, 7, 8, 9, 10, 11, 12, 13] rfl) (hD.sub [0, 1, 2, 3, 4, 5, 6, 7, 8, 9, 10, 11, 12, 13] (by decide) rfl) hS _ (lv_sub hl [1, 2, 3, 0] rfl)
  exact loop_2 25 24 0 ov rfl rfl (by decide) _ _ (hP.sub [0, 1, 2, 3, 4, 5, 6, 7, 8, 9, 10, 11, 12, 13] rfl) (hD.sub [0, 1, 2, 3, 4, 5, 6, 7, 8, 9, 10, 11, 12, 13] (by decide) rfl) hS _ (lv_sub hl [1, 2, 0] rfl)
abbrev y_Plc_orderByFirst : MethodName := ⟨"ScanMill$Places", "orderByFirst", "()V"⟩
theorem d_Plc_orderByFirst_0 : decode prog_4_method_17_code 0 = .ok (.iconst 0, 1) := by decide +kernel
theorem d_Plc_orderByFirst_1 : decode prog_4_method_17_code 1 = .ok (.istore_n 1, 1) := by decide +kernel
theorem d_Plc_orderByFirst_2 : decode prog_4_method_17_code 2 = .ok (.iload_n 1, 1) := by decide +kernel
theorem d_Plc_orderByFirst_3 : decode prog_4_method_17_code 3 = .ok (.bipush 24, 2) := by decide +kernel
theorem d_Plc_orderByFirst_5 : decode prog_4_method_17_code 5 = .ok (.if_icmp .ge 84, 3) := by decide +kernel
theorem d_Plc_orderByFirst_89 : decode prog_4_method_17_code 89 = .ok (.return_, 1) := by decide +kernel
theorem d_Plc_orderByFirst_8 : decode prog_4_method_17_code 8 = .ok (.aload_n 0, 1) := by decide +kernel
theorem d_Plc_orderByFirst_9 : decode prog_4_method_17_code 9 = .ok (.iload_n 1, 1) := by decide +kernel
theorem d_Plc_orderByFirst_10 : decode prog_4_method_17_code 10 = .ok (.invokevirtual 110, 3) := by decide +kernel
theorem d_Plc_orderByFirst_13 : decode prog_4_method_17_code 13 = .ok (.ifCond .eq 70, 3) := by decide +kernel
theorem d_Plc_orderByFirst_83 : decode prog_4_method_17_code 83 = .ok (.iinc 1 1, 3) := by decide +kernel
theorem d_Plc_orderByFirst_86 : decode prog_4_method_17_code 86 = .ok (.goto (-84), 3) := by decide +kernel
theorem d_Plc_orderByFirst_16 : decode prog_4_method_17_code 16 = .ok (.aload_n 0, 1) := by decide +kernel
theorem d_Plc_orderByFirst_17 : decode prog_4_method_17_code 17 = .ok (.getfield 37, 3) := by decide +kernel
theorem d_Plc_orderByFirst_20 : decode prog_4_method_17_code 20 = .ok (.istore_n 2, 1) := by decide +kernel
theorem d_Plc_orderByFirst_21 : decode prog_4_method_17_code 21 = .ok (.iload_n 2, 1) := by decide +kernel
theorem d_Plc_orderByFirst_22 : decode prog_4_method_17_code 22 = .ok (.ifCond .le 44, 3) := by decide +kernel
theorem d_Plc_orderByFirst_66 : decode prog_4_method_17_code 66 = .ok (.aload_n 0, 1) := by decide +kernel
theorem d_Plc_orderByFirst_67 : decode prog_4_method_17_code 67 = .ok (.getfield 28, 3) := by decide +kernel
theorem mw_70 : Cond.fieldLink "ScanMill$Places" 28 "ScanMill$Places" "order" "[I" ∈ wG := wG_t 70 (by decide +kernel) (by decide +kernel)
theorem d_Plc_orderByFirst_70 : decode prog_4_method_17_code 70 = .ok (.iload_n 2, 1) := by decide +kernel
theorem d_Plc_orderByFirst_71 : decode prog_4_method_17_code 71 = .ok (.iload_n 1, 1) := by decide +kernel
theorem d_Plc_orderByFirst_72 : decode prog_4_method_17_code 72 = .ok (.iastore, 1) := by decide +kernel
theorem d_Plc_orderByFirst_73 : decode prog_4_method_17_code 73 = .ok (.aload_n 0, 1) := by decide +kernel
theorem d_Plc_orderByFirst_74 : decode prog_4_method_17_code 74 = .ok (.dup, 1) := by decide +kernel
theorem d_Plc_orderByFirst_75 : decode prog_4_method_17_code 75 = .ok (.getfield 37, 3) := by decide +kernel
theorem d_Plc_orderByFirst_78 : decode prog_4_method_17_code 78 = .ok (.iconst 1, 1) := by decide +kernel
theorem d_Plc_orderByFirst_79 : decode prog_4_method_17_code 79 = .ok (.iadd, 1) := by decide +kernel
theorem d_Plc_orderByFirst_80 : decode prog_4_method_17_code 80 = .ok (.putfield 37, 3) := by decide +kernel
theorem d_Plc_orderByFirst_25 : decode prog_4_method_17_code 25 = .ok (.aload_n 0, 1) := by decide +kernel
theorem d_Plc_orderByFirst_26 : decode prog_4_method_17_code 26 = .ok (.aload_n 0, 1) := by decide +kernel
theorem d_Plc_orderByFirst_27 : decode prog_4_method_17_code 27 = .ok (.getfield 28, 3) := by decide +kernel
theorem d_Plc_orderByFirst_30 : decode prog_4_method_17_code 30 = .ok (.iload_n 2, 1) := by decide +kernel
theorem d_Plc_orderByFirst_31 : decode prog_4_method_17_code 31 = .ok (.iconst 1, 1) := by decide +kernel
theorem d_Plc_orderByFirst_32 : decode prog_4_method_17_code 32 = .ok (.isub, 1) := by decide +kernel
theorem d_Plc_orderByFirst_33 : decode prog_4_method_17_code 33 = .ok (.iaload, 1) := by decide +kernel
theorem d_Plc_orderByFirst_34 : decode prog_4_method_17_code 34 = .ok (.invokevirtual 113, 3) := by decide +kernel
theorem mw_291 : Cond.code ⟨"ScanMill$Places", "firstOf", "(I)I"⟩ prog_4_method_4_code 2 (Option.some FieldType.int) ∈ wG := wG_t 291 (by decide +kernel) (by decide +kernel)
theorem mw_288 : Cond.methodLink "ScanMill$Places" 113 ⟨"ScanMill$Places", "firstOf", "(I)I"⟩ ∈ wG := wG_t 288 (by decide +kernel) (by decide +kernel)
theorem mw_289 : Cond.instanceMethod ⟨"ScanMill$Places", "firstOf", "(I)I"⟩ ∈ wG := wG_t 289 (by decide +kernel) (by decide +kernel)
theorem mw_290 : Cond.selects "ScanMill$Places" ⟨"ScanMill$Places", "firstOf", "(I)I"⟩ ⟨"ScanMill$Places", "firstOf", "(I)I"⟩ ∈ wG := wG_t 290 (by decide +kernel) (by decide +kernel)
theorem d_Plc_orderByFirst_37 : decode prog_4_method_17_code 37 = .ok (.aload_n 0, 1) := by decide +kernel
theorem d_Plc_orderByFirst_38 : decode prog_4_method_17_code 38 = .ok (.getfield 9, 3) := by decide +kernel
theorem d_Plc_orderByFirst_41 : decode prog_4_method_17_code 41 = .ok (.iload_n 1, 1) := by decide +kernel
theorem d_Plc_orderByFirst_42 : decode prog_4_method_17_code 42 = .ok (.iaload, 1) := by decide +kernel
theorem d_Plc_orderByFirst_43 : decode prog_4_method_17_code 43 = .ok (.if_icmp .le 23, 3) := by decide +kernel
theorem d_Plc_orderByFirst_46 : decode prog_4_method_17_code 46 = .ok (.aload_n 0, 1) := by decide +kernel
theorem d_Plc_orderByFirst_47 : decode prog_4_method_17_code 47 = .ok (.getfield 28, 3) := by decide +kernel
theorem d_Plc_orderByFirst_50 : decode prog_4_method_17_code 50 = .ok (.iload_n 2, 1) := by decide +kernel
theorem d_Plc_orderByFirst_51 : decode prog_4_method_17_code 51 = .ok (.aload_n 0, 1) := by decide +kernel
theorem d_Plc_orderByFirst_52 : decode prog_4_method_17_code 52 = .ok (.getfield 28, 3) := by decide +kernel
theorem d_Plc_orderByFirst_55 : decode prog_4_method_17_code 55 = .ok (.iload_n 2, 1) := by decide +kernel
theorem d_Plc_orderByFirst_56 : decode prog_4_method_17_code 56 = .ok (.iconst 1, 1) := by decide +kernel
theorem d_Plc_orderByFirst_57 : decode prog_4_method_17_code 57 = .ok (.isub, 1) := by decide +kernel
theorem d_Plc_orderByFirst_58 : decode prog_4_method_17_code 58 = .ok (.iaload, 1) := by decide +kernel
theorem d_Plc_orderByFirst_59 : decode prog_4_method_17_code 59 = .ok (.iastore, 1) := by decide +kernel
theorem d_Plc_orderByFirst_60 : decode prog_4_method_17_code 60 = .ok (.iinc 2 (-1), 3) := by decide +kernel
theorem d_Plc_orderByFirst_63 : decode prog_4_method_17_code 63 = .ok (.goto (-42), 3) := by decide +kernel
set_option maxRecDepth 100000 in
set_option maxHeartbeats 4000000 in
theorem c_Plc_orderByFirst {l : Launch} {dC : Nat → ClassId} {dI : Nat → Nat → Nat} {cI cZ : ClassId} {pl pf pa po pr ps pd ph pq wr : Nat} {fi la ov rg sl od rh sh : Nat → Int32} {sc : Int32}  : sm_V l y_Plc_orderByFirst prog_4_method_17_code 3 none (rmF 2 41) (dC, dI) smC [(cI, .int), (cZ, .boolean)] [.ref pl] [(pl, .inr (2, [.ref pf, .ref pa, .ref po, .ref pr, .ref ps, .ref pd, .ref ph, .ref pq, .int (nI 0), .int (nI wr), .int sc])), (pf, .inl (cI, 24, .inl fi)), (pa, .inl (cI, 24, .inl la)), (po, .inl (cZ, 24, .inl ov)), (pr, .inl (cI, 24, .inl rg)), (ps, .inl (cI, 24, .inl sl)), (pd, .inl (cI, 24, .inl od)), (ph, .inl (cI, 8, .inl rh)), (pq, .inl (cI, 24, .inl sh))] (fun w2 => w2 = [(pl, .inr (2, [.ref pf, .ref pa, .ref po, .ref pr, .ref ps, .ref pd, .ref ph, .ref pq, .int (nI ((odO fi la 24 0 0 od).1)), .int (nI wr), .int sc])), (pf, .inl (cI, 24, .inl fi)), (pa, .inl (cI, 24, .inl la)), (po, .inl (cZ, 24, .inl ov)), (pr, .inl (cI, 24, .inl rg)), (ps, .inl (cI, 24, .inl sl)), (pd, .inl (cI, 24, .inl ((odO fi la 24 0 0 od).2))), (ph, .inl (cI, 8, .inl rh)), (pq, .inl (cI, 24, .inl sh))]) := by
  refine sm_V.mk (by decide) (Nat.le_of_ble_eq_true rfl) ?_
  intro p e s m below meth c A H locs ls hx hb hr ht hown hlocks hml hnm hP hK hD hA hS hN hl
  have hl : lv_has ls 3 [(0, .ref pl)] := hl
  refine lv_iconst (v := 0) hx hb d_Plc_orderByFirst_0 (by decide) ?_
  refine lv_istore_n (lv' := [(1, .int ((0 : Int32))), (0, .ref pl)]) hx hb d_Plc_orderByFirst_1 rfl hl (by decide) rfl (fun ls hl => ?_)
  have loop_2 : ∀ (N_2 : Nat) (q : Nat) (v : Nat) (w : Nat) (go : Nat → Int32), (q + v = 24) → (w ≤ v) → (odO fi la q v w go = odO fi la 24 0 0 od) → q < N_2 → ∀ (H : Heap) (locs : List Loc), va_P (dC, dI) smC [(pl, .inr (2, [.ref pf, .ref pa, .ref po, .ref pr, .ref ps, .ref pd, .ref ph, .ref pq, .int (nI w), .int (nI wr), .int sc])), (pf, .inl (cI, 24, .inl fi)), (pa, .inl (cI, 24, .inl la)), (po, .inl (cZ, 24, .inl ov)), (pr, .inl (cI, 24, .inl rg)), (ps, .inl (cI, 24, .inl sl)), (pd, .inl (cI, 24, .inl go)), (ph, .inl (cI, 8, .inl rh)), (pq, .inl (cI, 24, .inl sh))] H → va_D A [(pl, .inr (2, [.ref pf, .ref pa, .ref po, .ref pr, .ref ps, .ref pd, .ref ph, .ref pq, .int (nI w), .int (nI wr), .int sc])), (pf, .inl (cI, 24, .inl fi)), (pa, .inl (cI, 24, .inl la)), (po, .inl (cZ, 24, .inl ov)), (pr, .inl (cI, 24, .inl rg)), (ps, .inl (cI, 24, .inl sl)), (pd, .inl (cI, 24, .inl go)), (ph, .inl (cI, 8, .inl rh)), (pq, .inl (cI, 24, .inl sh))] → va_S A s.heap H locs → ∀ ls : Array Slot, lv_has ls 3 [(0, .ref pl), (1, .int (nI v))] → W p l e (rmF 2 41) s m ([.ref pl] : List Value).toArray below meth c H locs 0 0 (MQ below (va_Qv (fun w2 => w2 = [(pl, .inr (2, [.ref pf, .ref pa, .ref po, .ref pr, .ref ps, .ref pd, .ref ph, .ref pq, .int (nI ((odO fi la 24 0 0 od).1)), .int (nI wr), .int sc])), (pf, .inl (cI, 24, .inl fi)), (pa, .inl (cI, 24, .inl la)), (po, .inl (cZ, 24, .inl ov)), (pr, .inl (cI, 24, .inl rg)), (ps, .inl (cI, 24, .inl sl)), (pd, .inl (cI, 24, .inl ((odO fi la 24 0 0 od).2))), (ph, .inl (cI, 8, .inl rh)), (pq, .inl (cI, 24, .inl sh))]) (sm_B (dC, dI) smC [(cI, .int), (cZ, .boolean)] A) A) ([.ref pl] : List Value).toArray s 0 0 A) (F0 m 2 ls []) := by
    intro N_2
    induction N_2 with
    | zero => intro q v w go _ _ _ z; exact absurd z (Nat.not_lt_zero _)
    | succ N_2 ih_2 =>
      intro q v w go hqv hwv hv m_2 H locs hP hD hS ls hl
      refine lv_iload_n hx hb d_Plc_orderByFirst_2 rfl (lv_at hl 1 rfl) ?_
      refine lv_bipush (v := 24) hx hb d_Plc_orderByFirst_3 (by decide) ?_
      refine lv_icmp_ge (tgt := 89) hx hb d_Plc_orderByFirst_5 (by decide) (fun c_5 => ?_) (fun c_5 => ?_)
      · skip
        have f_5 : 24 ≤ v := (nI_leI (a := 24) (b := v) (by first | omega | decide) (by first | omega | decide)).mp c_5
        obtain rfl : q = 0 := by omega
        refine sm_rv (ws := [(pl, .inr (2, [.ref pf, .ref pa, .ref po, .ref pr, .ref ps, .ref pd, .ref ph, .ref pq, .int (nI w), .int (nI wr), .int sc])), (pf, .inl (cI, 24, .inl fi)), (pa, .inl (cI, 24, .inl la)), (po, .inl (cZ, 24, .inl ov)), (pr, .inl (cI, 24, .inl rg)), (ps, .inl (cI, 24, .inl sl)), (pd, .inl (cI, 24, .inl go)), (ph, .inl (cI, 8, .inl rh)), (pq, .inl (cI, 24, .inl sh))]) hx hb hr hlocks hK (hP.sub [0, 1, 2, 3, 4, 5, 6, 7, 8] rfl) (hD.sub [0, 1, 2, 3, 4, 5, 6, 7, 8] (by decide) rfl) hS ?_ d_Plc_orderByFirst_89
        show _ = _
        rw [← hv]; rfl
      · skip
        have f_5 : ¬ 24 ≤ v := fun z => c_5 ((nI_leI (a := 24) (b := v) (by first | omega | decide) (by first | omega | decide)).mpr z)
        obtain ⟨q1, rfl⟩ : ∃ z, q = z + 1 := ⟨q - 1, by omega⟩
        refine lv_aload_n hx hb d_Plc_orderByFirst_8 rfl (lv_at hl 0 rfl) ?_
        refine lv_iload_n hx hb d_Plc_orderByFirst_9 rfl (lv_at hl 1 rfl) ?_
        refine sm_goi (wc := [(pl, .inr (2, [.ref pf, .ref pa, .ref po, .ref pr, .ref ps, .ref pd, .ref ph, .ref pq, .int (nI w), .int (nI wr), .int sc])), (pf, .inl (cI, 24, .inl fi)), (pa, .inl (cI, 24, .inl la)), (po, .inl (cZ, 24, .inl ov)), (pr, .inl (cI, 24, .inl rg)), (ps, .inl (cI, 24, .inl sl)), (pd, .inl (cI, 24, .inl go)), (ph, .inl (cI, 8, .inl rh)), (pq, .inl (cI, 24, .inl sh))]) (wr := []) (va_runV (As := [.int (nI v)]) (rest := []) ⟨hx, hb, hml, hown, ht⟩ ((c_Plc_are (l := l) (dC := dC) (dI := dI) (cI := cI) (cZ := cZ) (pl := pl) (pf := pf) (pa := pa) (po := po) (pr := pr) (ps := ps) (pd := pd) (ph := ph) (pq := pq) (wo := w) (wr := wr) (fi := fi) (la := la) (ov := ov) (rg := rg) (sl := sl) (od := go) (rh := rh) (sh := sh) (sc := sc) (v := nI v) ).at H.size) (sm_cV 1 ht mw_283 mw_4 mw_280 mw_281 mw_282 rfl rfl (by decide +kernel) ⟨Nat.le_of_ble_eq_true rfl, Nat.le_of_ble_eq_true rfl⟩) (sm_preV (ci := 2) hN hK hP hD [0, 1, 2, 3, 4, 5, 6, 7, 8] rfl rfl (by decide) 0 rfl rfl) rfl rfl hl.1 rfl (lv_room (Nat.le_of_ble_eq_true rfl)) d_Plc_orderByFirst_10 ⟨Nat.zero_le _, Nat.zero_le _⟩) hP hD hS hA [0, 1, 2, 3, 4, 5, 6, 7, 8] [] rfl rfl (by decide) (by decide) (fun r_10 w_10 H locs q_10 hP hD hS => ?_)
        obtain ⟨rfl, rfl⟩ := q_10
        have hP : va_P (dC, dI) smC [(pl, .inr (2, [.ref pf, .ref pa, .ref po, .ref pr, .ref ps, .ref pd, .ref ph, .ref pq, .int (nI w), .int (nI wr), .int sc])), (pf, .inl (cI, 24, .inl fi)), (pa, .inl (cI, 24, .inl la)), (po, .inl (cZ, 24, .inl ov)), (pr, .inl (cI, 24, .inl rg)), (ps, .inl (cI, 24, .inl sl)), (pd, .inl (cI, 24, .inl go)), (ph, .inl (cI, 8, .inl rh)), (pq, .inl (cI, 24, .inl sh))] H := hP
        have hD : va_D A [(pl, .inr (2, [.ref pf, .ref pa, .ref po, .ref pr, .ref ps, .ref pd, .ref ph, .ref pq, .int (nI w), .int (nI wr), .int sc])), (pf, .inl (cI, 24, .inl fi)), (pa, .inl (cI, 24, .inl la)), (po, .inl (cZ, 24, .inl ov)), (pr, .inl (cI, 24, .inl rg)), (ps, .inl (cI, 24, .inl sl)), (pd, .inl (cI, 24, .inl go)), (ph, .inl (cI, 8, .inl rh)), (pq, .inl (cI, 24, .inl sh))] := hD
        refine lv_if_eq (tgt := 83) hx hb d_Plc_orderByFirst_13 (by decide) (fun c_13 => ?_) (fun c_13 => ?_)
        · skip
          have e_13 : (arB la (nI v)) = false := b2i_eq0 c_13
          refine lv_iinc (v := nI (v + 1)) (lv' := [(1, .int (nI (v + 1))), (0, .ref pl)]) hx hb d_Plc_orderByFirst_83 hl (k := 1) rfl (nI_add v 1) (by decide) rfl (fun ls hl => ?_)
          refine lv_goto (tgt := 2) hx hb d_Plc_orderByFirst_86 (by decide) ?_
          exact ih_2 q1 (v + 1) w go (by omega) (by omega) (by rw [← hv, odO, if_neg (by rw [e_13]; decide)]) (by omega) _ _ (hP.sub [0, 1, 2, 3, 4, 5, 6, 7, 8] rfl) (hD.sub [0, 1, 2, 3, 4, 5, 6, 7, 8] (by decide) rfl) hS _ (lv_sub hl [1, 0] rfl)
        · skip
          have e_13 : (arB la (nI v)) = true := b2i_ne0 c_13
          refine lv_aload_n hx hb d_Plc_orderByFirst_16 rfl (lv_at hl 0 rfl) ?_
          refine va_get (D := (dC, dI)) (ci := 2) (v := .int (nI w)) (C := R_Plc) (T := T_Plc) (N := 11) hx hb ht i_Plc hown hK hP 0 rfl rfl 8 (by decide) (ht _ mw_73) (fun _ h9 => h9) rfl d_Plc_orderByFirst_17 ?_
          refine lv_istore_n (lv' := [(2, .int (nI w)), (0, .ref pl), (1, .int (nI v))]) hx hb d_Plc_orderByFirst_20 rfl hl (by decide) rfl (fun ls hl => ?_)
          have loop_21 : ∀ (N_21 : Nat) (u : Nat) (bo : Nat → Int32), (u ≤ w) → (ins fi v u bo = ins fi v w go) → u < N_21 → ∀ (H : Heap) (locs : List Loc), va_P (dC, dI) smC [(pl, .inr (2, [.ref pf, .ref pa, .ref po, .ref pr, .ref ps, .ref pd, .ref ph, .ref pq, .int (nI w), .int (nI wr), .int sc])), (pf, .inl (cI, 24, .inl fi)), (pa, .inl (cI, 24, .inl la)), (po, .inl (cZ, 24, .inl ov)), (pr, .inl (cI, 24, .inl rg)), (ps, .inl (cI, 24, .inl sl)), (pd, .inl (cI, 24, .inl bo)), (ph, .inl (cI, 8, .inl rh)), (pq, .inl (cI, 24, .inl sh))] H → va_D A [(pl, .inr (2, [.ref pf, .ref pa, .ref po, .ref pr, .ref ps, .ref pd, .ref ph, .ref pq, .int (nI w), .int (nI wr), .int sc])), (pf, .inl (cI, 24, .inl fi)), (pa, .inl (cI, 24, .inl la)), (po, .inl (cZ, 24, .inl ov)), (pr, .inl (cI, 24, .inl rg)), (ps, .inl (cI, 24, .inl sl)), (pd, .inl (cI, 24, .inl bo)), (ph, .inl (cI, 8, .inl rh)), (pq, .inl (cI, 24, .inl sh))] → va_S A s.heap H locs → ∀ ls : Array Slot, lv_has ls 3 [(0, .ref pl), (1, .int (nI v)), (2, .int (nI u))] → W p l e (rmF 2 41) s m ([.ref pl] : List Value).toArray below meth c H locs 0 0 (MQ below (va_Qv (fun w2 => w2 = [(pl, .inr (2, [.ref pf, .ref pa, .ref po, .ref pr, .ref ps, .ref pd, .ref ph, .ref pq, .int (nI ((odO fi la 24 0 0 od).1)), .int (nI wr), .int sc])), (pf, .inl (cI, 24, .inl fi)), (pa, .inl (cI, 24, .inl la)), (po, .inl (cZ, 24, .inl ov)), (pr, .inl (cI, 24, .inl rg)), (ps, .inl (cI, 24, .inl sl)), (pd, .inl (cI, 24, .inl ((odO fi la 24 0 0 od).2))), (ph, .inl (cI, 8, .inl rh)), (pq, .inl (cI, 24, .inl sh))]) (sm_B (dC, dI) smC [(cI, .int), (cZ, .boolean)] A) A) ([.ref pl] : List Value).toArray s 0 0 A) (F0 m 21 ls []) := by
            intro N_21
            induction N_21 with
            | zero => intro u bo _ _ z; exact absurd z (Nat.not_lt_zero _)
            | succ N_21 ih_21 =>
              intro u bo hu hi m_21 H locs hP hD hS ls hl
              refine lv_iload_n hx hb d_Plc_orderByFirst_21 rfl (lv_at hl 2 rfl) ?_
              refine lv_if_le (tgt := 66) hx hb d_Plc_orderByFirst_22 (by decide) (fun c_22 => ?_) (fun c_22 => ?_)
              · skip
                have f_22 : u ≤ 0 := (nI_leI (a := u) (b := 0) (by first | omega | decide) (by first | omega | decide)).mp c_22
                obtain rfl : u = 0 := by omega
                refine lv_aload_n hx hb d_Plc_orderByFirst_66 rfl (lv_at hl 0 rfl) ?_
                refine va_get (D := (dC, dI)) (ci := 2) (v := .ref pd) (C := R_Plc) (T := T_Plc) (N := 11) hx hb ht i_Plc hown hK hP 0 rfl rfl 5 (by decide) (ht _ mw_70) (fun _ h9 => h9) rfl d_Plc_orderByFirst_67 ?_
                refine lv_iload_n hx hb d_Plc_orderByFirst_70 rfl (lv_at hl 2 rfl) ?_
                refine lv_iload_n hx hb d_Plc_orderByFirst_71 rfl (lv_at hl 1 rfl) ?_
                refine sm_iast (j := 0) hx hb hK hP hD hS 6 0 rfl rfl (vp_in_nI (by first | omega | assumption) (by first | decide | omega)) (nI_clamp (by first | omega | (have := sm_lt31; omega))) d_Plc_orderByFirst_72 (fun H locs hP hD hS => ?_)
                have hP : va_P (dC, dI) smC [(pl, .inr (2, [.ref pf, .ref pa, .ref po, .ref pr, .ref ps, .ref pd, .ref ph, .ref pq, .int (nI w), .int (nI wr), .int sc])), (pf, .inl (cI, 24, .inl fi)), (pa, .inl (cI, 24, .inl la)), (po, .inl (cZ, 24, .inl ov)), (pr, .inl (cI, 24, .inl rg)), (ps, .inl (cI, 24, .inl sl)), (pd, .inl (cI, 24, .inl (upd bo 0 (nI v)))), (ph, .inl (cI, 8, .inl rh)), (pq, .inl (cI, 24, .inl sh))] H := hP
                have hD : va_D A [(pl, .inr (2, [.ref pf, .ref pa, .ref po, .ref pr, .ref ps, .ref pd, .ref ph, .ref pq, .int (nI w), .int (nI wr), .int sc])), (pf, .inl (cI, 24, .inl fi)), (pa, .inl (cI, 24, .inl la)), (po, .inl (cZ, 24, .inl ov)), (pr, .inl (cI, 24, .inl rg)), (ps, .inl (cI, 24, .inl sl)), (pd, .inl (cI, 24, .inl (upd bo 0 (nI v)))), (ph, .inl (cI, 8, .inl rh)), (pq, .inl (cI, 24, .inl sh))] := hD
                refine lv_aload_n hx hb d_Plc_orderByFirst_73 rfl (lv_at hl 0 rfl) ?_
                refine lv_dup hx hb d_Plc_orderByFirst_74 rfl ?_
                refine va_get (D := (dC, dI)) (ci := 2) (v := .int (nI w)) (C := R_Plc) (T := T_Plc) (N := 11) hx hb ht i_Plc hown hK hP 0 rfl rfl 8 (by decide) (ht _ mw_73) (fun _ h9 => h9) rfl d_Plc_orderByFirst_75 ?_
                refine lv_iconst (v := 1) hx hb d_Plc_orderByFirst_78 (by decide) ?_
                refine lv_iadd hx hb d_Plc_orderByFirst_79 ?_
                refine sm_re (nI_add w 1) ?_
                refine va_put (D := (dC, dI)) (ci := 2) (v := .int (nI (w + 1))) (ty := .int) (C := R_Plc) (T := T_Plc) (N := 11) hx hb ht i_Plc t_Plc t_Plc_ok n_Plc hown hK hP hD hS 0 rfl rfl 8 (by decide) (ht _ mw_73) (fun _ h9 => h9) rfl (by decide +kernel) rfl rfl (Nat.le_of_ble_eq_true rfl) d_Plc_orderByFirst_80 (fun H locs hP hD hS => ?_)
                have hP : va_P (dC, dI) smC [(pl, .inr (2, [.ref pf, .ref pa, .ref po, .ref pr, .ref ps, .ref pd, .ref ph, .ref pq, .int (nI (w + 1)), .int (nI wr), .int sc])), (pf, .inl (cI, 24, .inl fi)), (pa, .inl (cI, 24, .inl la)), (po, .inl (cZ, 24, .inl ov)), (pr, .inl (cI, 24, .inl rg)), (ps, .inl (cI, 24, .inl sl)), (pd, .inl (cI, 24, .inl (upd bo 0 (nI v)))), (ph, .inl (cI, 8, .inl rh)), (pq, .inl (cI, 24, .inl sh))] H := hP
                have hD : va_D A [(pl, .inr (2, [.ref pf, .ref pa, .ref po, .ref pr, .ref ps, .ref pd, .ref ph, .ref pq, .int (nI (w + 1)), .int (nI wr), .int sc])), (pf, .inl (cI, 24, .inl fi)), (pa, .inl (cI, 24, .inl la)), (po, .inl (cZ, 24, .inl ov)), (pr, .inl (cI, 24, .inl rg)), (ps, .inl (cI, 24, .inl sl)), (pd, .inl (cI, 24, .inl (upd bo 0 (nI v)))), (ph, .inl (cI, 8, .inl rh)), (pq, .inl (cI, 24, .inl sh))] := hD
                refine lv_iinc (v := nI (v + 1)) (lv' := [(1, .int (nI (v + 1))), (0, .ref pl), (2, .int (nI 0))]) hx hb d_Plc_orderByFirst_83 hl (k := 1) rfl (nI_add v 1) (by decide) rfl (fun ls hl => ?_)
                refine lv_goto (tgt := 2) hx hb d_Plc_orderByFirst_86 (by decide) ?_
                exact ih_2 q1 (v + 1) (w + 1) (upd bo 0 (nI v)) (by omega) (by omega) (by rw [← hv, odO, if_pos e_13, ← hi] <;> first | rfl | rw [ins, if_pos c_43]) (by omega) _ _ (hP.sub [0, 1, 2, 3, 4, 5, 6, 7, 8] rfl) (hD.sub [0, 1, 2, 3, 4, 5, 6, 7, 8] (by decide) rfl) hS _ (lv_sub hl [1, 0] rfl)
              · skip
                have f_22 : ¬ u ≤ 0 := fun z => c_22 ((nI_leI (a := u) (b := 0) (by first | omega | decide) (by first | omega | decide)).mpr z)
                obtain ⟨u1, rfl⟩ : ∃ z, u = z + 1 := ⟨u - 1, by omega⟩
                refine lv_aload_n hx hb d_Plc_orderByFirst_25 rfl (lv_at hl 0 rfl) ?_
                refine lv_aload_n hx hb d_Plc_orderByFirst_26 rfl (lv_at hl 0 rfl) ?_
                refine va_get (D := (dC, dI)) (ci := 2) (v := .ref pd) (C := R_Plc) (T := T_Plc) (N := 11) hx hb ht i_Plc hown hK hP 0 rfl rfl 5 (by decide) (ht _ mw_70) (fun _ h9 => h9) rfl d_Plc_orderByFirst_27 ?_
                refine lv_iload_n hx hb d_Plc_orderByFirst_30 rfl (lv_at hl 2 rfl) ?_
                refine lv_iconst (v := 1) hx hb d_Plc_orderByFirst_31 (by decide) ?_
                refine lv_isub hx hb d_Plc_orderByFirst_32 ?_
                refine sm_re (nI_pred u1) ?_
                refine sm_iald (j := u1) hx hb hK hP 6 0 rfl rfl (vp_in_nI (by first | omega | assumption) (by first | decide | omega)) (nI_clamp (by first | omega | (have := sm_lt31; omega))) d_Plc_orderByFirst_33 ?_
                refine sm_goi (wc := [(pl, .inr (2, [.ref pf, .ref pa, .ref po, .ref pr, .ref ps, .ref pd, .ref ph, .ref pq, .int (nI w), .int (nI wr), .int sc])), (pf, .inl (cI, 24, .inl fi)), (pa, .inl (cI, 24, .inl la)), (po, .inl (cZ, 24, .inl ov)), (pr, .inl (cI, 24, .inl rg)), (ps, .inl (cI, 24, .inl sl)), (pd, .inl (cI, 24, .inl bo)), (ph, .inl (cI, 8, .inl rh)), (pq, .inl (cI, 24, .inl sh))]) (wr := []) (va_runV (As := [.int (bo u1)]) (rest := []) ⟨hx, hb, hml, hown, ht⟩ ((c_Plc_firstOf (l := l) (dC := dC) (dI := dI) (cI := cI) (cZ := cZ) (pl := pl) (pf := pf) (pa := pa) (po := po) (pr := pr) (ps := ps) (pd := pd) (ph := ph) (pq := pq) (wo := w) (wr := wr) (fi := fi) (la := la) (ov := ov) (rg := rg) (sl := sl) (od := bo) (rh := rh) (sh := sh) (sc := sc) (v := bo u1) ).at H.size) (sm_cV 1 ht mw_291 mw_4 mw_288 mw_289 mw_290 rfl rfl (by decide +kernel) ⟨Nat.le_of_ble_eq_true rfl, Nat.le_of_ble_eq_true rfl⟩) (sm_preV (ci := 2) hN hK hP hD [0, 1, 2, 3, 4, 5, 6, 7, 8] rfl rfl (by decide) 0 rfl rfl) rfl rfl hl.1 rfl (lv_room (Nat.le_of_ble_eq_true rfl)) d_Plc_orderByFirst_34 ⟨Nat.zero_le _, Nat.zero_le _⟩) hP hD hS hA [0, 1, 2, 3, 4, 5, 6, 7, 8] [] rfl rfl (by decide) (by decide) (fun r_34 w_34 H locs q_34 hP hD hS => ?_)
                obtain ⟨rfl, rfl⟩ := q_34
                have hP : va_P (dC, dI) smC [(pl, .inr (2, [.ref pf, .ref pa, .ref po, .ref pr, .ref ps, .ref pd, .ref ph, .ref pq, .int (nI w), .int (nI wr), .int sc])), (pf, .inl (cI, 24, .inl fi)), (pa, .inl (cI, 24, .inl la)), (po, .inl (cZ, 24, .inl ov)), (pr, .inl (cI, 24, .inl rg)), (ps, .inl (cI, 24, .inl sl)), (pd, .inl (cI, 24, .inl bo)), (ph, .inl (cI, 8, .inl rh)), (pq, .inl (cI, 24, .inl sh))] H := hP
                have hD : va_D A [(pl, .inr (2, [.ref pf, .ref pa, .ref po, .ref pr, .ref ps, .ref pd, .ref ph, .ref pq, .int (nI w), .int (nI wr), .int sc])), (pf, .inl (cI, 24, .inl fi)), (pa, .inl (cI, 24, .inl la)), (po, .inl (cZ, 24, .inl ov)), (pr, .inl (cI, 24, .inl rg)), (ps, .inl (cI, 24, .inl sl)), (pd, .inl (cI, 24, .inl bo)), (ph, .inl (cI, 8, .inl rh)), (pq, .inl (cI, 24, .inl sh))] := hD
                refine lv_aload_n hx hb d_Plc_orderByFirst_37 rfl (lv_at hl 0 rfl) ?_
                refine va_get (D := (dC, dI)) (ci := 2) (v := .ref pf) (C := R_Plc) (T := T_Plc) (N := 11) hx hb ht i_Plc hown hK hP 0 rfl rfl 0 (by decide) (ht _ mw_65) (fun _ h9 => h9) rfl d_Plc_orderByFirst_38 ?_
                refine lv_iload_n hx hb d_Plc_orderByFirst_41 rfl (lv_at hl 1 rfl) ?_
                refine sm_iald (j := v) hx hb hK hP 1 0 rfl rfl (vp_in_nI (by first | omega | assumption) (by first | decide | omega)) (nI_clamp (by first | omega | (have := sm_lt31; omega))) d_Plc_orderByFirst_42 ?_
                refine lv_icmp_le (tgt := 66) hx hb d_Plc_orderByFirst_43 (by decide) (fun c_43 => ?_) (fun c_43 => ?_)
                · skip
                  refine lv_aload_n hx hb d_Plc_orderByFirst_66 rfl (lv_at hl 0 rfl) ?_
                  refine va_get (D := (dC, dI)) (ci := 2) (v := .ref pd) (C := R_Plc) (T := T_Plc) (N := 11) hx hb ht i_Plc hown hK hP 0 rfl rfl 5 (by decide) (ht _ mw_70) (fun _ h9 => h9) rfl d_Plc_orderByFirst_67 ?_
                  refine lv_iload_n hx hb d_Plc_orderByFirst_70 rfl (lv_at hl 2 rfl) ?_
                  refine lv_iload_n hx hb d_Plc_orderByFirst_71 rfl (lv_at hl 1 rfl) ?_
                  refine sm_iast (j := u1 + 1) hx hb hK hP hD hS 6 0 rfl rfl (vp_in_nI (by first | omega | assumption) (by first | decide | omega)) (nI_clamp (by first | omega | (have := sm_lt31; omega))) d_Plc_orderByFirst_72 (fun H locs hP hD hS => ?_)
                  have hP : va_P (dC, dI) smC [(pl, .inr (2, [.ref pf, .ref pa, .ref po, .ref pr, .ref ps, .ref pd, .ref ph, .ref pq, .int (nI w), .int (nI wr), .int sc])), (pf, .inl (cI, 24, .inl fi)), (pa, .inl (cI, 24, .inl la)), (po, .inl (cZ, 24, .inl ov)), (pr, .inl (cI, 24, .inl rg)), (ps, .inl (cI, 24, .inl sl)), (pd, .inl (cI, 24, .inl (upd bo (u1 + 1) (nI v)))), (ph, .inl (cI, 8, .inl rh)), (pq, .inl (cI, 24, .inl sh))] H := hP
                  have hD : va_D A [(pl, .inr (2, [.ref pf, .ref pa, .ref po, .ref pr, .ref ps, .ref pd, .ref ph, .ref pq, .int (nI w), .int (nI wr), .int sc])), (pf, .inl (cI, 24, .inl fi)), (pa, .inl (cI, 24, .inl la)), (po, .inl (cZ, 24, .inl ov)), (pr, .inl (cI, 24, .inl rg)), (ps, .inl (cI, 24, .inl sl)), (pd, .inl (cI, 24, .inl (upd bo (u1 + 1) (nI v)))), (ph, .inl (cI, 8, .inl rh)), (pq, .inl (cI, 24, .inl sh))] := hD
                  refine lv_aload_n hx hb d_Plc_orderByFirst_73 rfl (lv_at hl 0 rfl) ?_
                  refine lv_dup hx hb d_Plc_orderByFirst_74 rfl ?_
                  refine va_get (D := (dC, dI)) (ci := 2) (v := .int (nI w)) (C := R_Plc) (T := T_Plc) (N := 11) hx hb ht i_Plc hown hK hP 0 rfl rfl 8 (by decide) (ht _ mw_73) (fun _ h9 => h9) rfl d_Plc_orderByFirst_75 ?_
                  refine lv_iconst (v := 1) hx hb d_Plc_orderByFirst_78 (by decide) ?_
                  refine lv_iadd hx hb d_Plc_orderByFirst_79 ?_
                  refine sm_re (nI_add w 1) ?_
                  refine va_put (D := (dC, dI)) (ci := 2) (v := .int (nI (w + 1))) (ty := .int) (C := R_Plc) (T := T_Plc) (N := 11) hx hb ht i_Plc t_Plc t_Plc_ok n_Plc hown hK hP hD hS 0 rfl rfl 8 (by decide) (ht _ mw_73) (fun _ h9 => h9) rfl (by decide +kernel) rfl rfl (Nat.le_of_ble_eq_true rfl) d_Plc_orderByFirst_80 (fun H locs hP hD hS => ?_)
                  have hP : va_P (dC, dI) smC [(pl, .inr (2, [.ref pf, .ref pa, .ref po, .ref pr, .ref ps, .ref pd, .ref ph, .ref pq, .int (nI (w + 1)), .int (nI wr), .int sc])), (pf, .inl (cI, 24, .inl fi)), (pa, .inl (cI, 24, .inl la)), (po, .inl (cZ, 24, .inl ov)), (pr, .inl (cI, 24, .inl rg)), (ps, .inl (cI, 24, .inl sl)), (pd, .inl (cI, 24, .inl (upd bo (u1 + 1) (nI v)))), (ph, .inl (cI, 8, .inl rh)), (pq, .inl (cI, 24, .inl sh))] H := hP
                  have hD : va_D A [(pl, .inr (2, [.ref pf, .ref pa, .ref po, .ref pr, .ref ps, .ref pd, .ref ph, .ref pq, .int (nI (w + 1)), .int (nI wr), .int sc])), (pf, .inl (cI, 24, .inl fi)), (pa, .inl (cI, 24, .inl la)), (po, .inl (cZ, 24, .inl ov)), (pr, .inl (cI, 24, .inl rg)), (ps, .inl (cI, 24, .inl sl)), (pd, .inl (cI, 24, .inl (upd bo (u1 + 1) (nI v)))), (ph, .inl (cI, 8, .inl rh)), (pq, .inl (cI, 24, .inl sh))] := hD
                  refine lv_iinc (v := nI (v + 1)) (lv' := [(1, .int (nI (v + 1))), (0, .ref pl), (2, .int (nI (u1 + 1)))]) hx hb d_Plc_orderByFirst_83 hl (k := 1) rfl (nI_add v 1) (by decide) rfl (fun ls hl => ?_)
                  refine lv_goto (tgt := 2) hx hb d_Plc_orderByFirst_86 (by decide) ?_
                  exact ih_2 q1 (v + 1) (w + 1) (upd bo (u1 + 1) (nI v)) (by omega) (by omega) (by rw [← hv, odO, if_pos e_13, ← hi] <;> first | rfl | rw [ins, if_pos c_43]) (by omega) _ _ (hP.sub [0, 1, 2, 3, 4, 5, 6, 7, 8] rfl) (hD.sub [0, 1, 2, 3, 4, 5, 6, 7, 8] (by decide) rfl) hS _ (lv_sub hl [1, 0] rfl)
                · skip
                  refine lv_aload_n hx hb d_Plc_orderByFirst_46 rfl (lv_at hl 0 rfl) ?_
                  refine va_get (D := (dC, dI)) (ci := 2) (v := .ref pd) (C := R_Plc) (T := T_Plc) (N := 11) hx hb ht i_Plc hown hK hP 0 rfl rfl 5 (by decide) (ht _ mw_70) (fun _ h9 => h9) rfl d_Plc_orderByFirst_47 ?_
                  refine lv_iload_n hx hb d_Plc_orderByFirst_50 rfl (lv_at hl 2 rfl) ?_
                  refine lv_aload_n hx hb d_Plc_orderByFirst_51 rfl (lv_at hl 0 rfl) ?_
                  refine va_get (D := (dC, dI)) (ci := 2) (v := .ref pd) (C := R_Plc) (T := T_Plc) (N := 11) hx hb ht i_Plc hown hK hP 0 rfl rfl 5 (by decide) (ht _ mw_70) (fun _ h9 => h9) rfl d_Plc_orderByFirst_52 ?_
                  refine lv_iload_n hx hb d_Plc_orderByFirst_55 rfl (lv_at hl 2 rfl) ?_
                  refine lv_iconst (v := 1) hx hb d_Plc_orderByFirst_56 (by decide) ?_
                  refine lv_isub hx hb d_Plc_orderByFirst_57 ?_
                  refine sm_re (nI_pred u1) ?_
                  refine sm_iald (j := u1) hx hb hK hP 6 0 rfl rfl (vp_in_nI (by first | omega | assumption) (by first | decide | omega)) (nI_clamp (by first | omega | (have := sm_lt31; omega))) d_Plc_orderByFirst_58 ?_
                  refine sm_iast (j := u1 + 1) hx hb hK hP hD hS 6 0 rfl rfl (vp_in_nI (by first | omega | assumption) (by first | decide | omega)) (nI_clamp (by first | omega | (have := sm_lt31; omega))) d_Plc_orderByFirst_59 (fun H locs hP hD hS => ?_)
                  have hP : va_P (dC, dI) smC [(pl, .inr (2, [.ref pf, .ref pa, .ref po, .ref pr, .ref ps, .ref pd, .ref ph, .ref pq, .int (nI w), .int (nI wr), .int sc])), (pf, .inl (cI, 24, .inl fi)), (pa, .inl (cI, 24, .inl la)), (po, .inl (cZ, 24, .inl ov)), (pr, .inl (cI, 24, .inl rg)), (ps, .inl (cI, 24, .inl sl)), (pd, .inl (cI, 24, .inl (upd bo (u1 + 1) (bo u1)))), (ph, .inl (cI, 8, .inl rh)), (pq, .inl (cI, 24, .inl sh))] H := hP
                  have hD : va_D A [(pl, .inr (2, [.ref pf, .ref pa, .ref po, .ref pr, .ref ps, .ref pd, .ref ph, .ref pq, .int (nI w), .int (nI wr), .int sc])), (pf, .inl (cI, 24, .inl fi)), (pa, .inl (cI, 24, .inl la)), (po, .inl (cZ, 24, .inl ov)), (pr, .inl (cI, 24, .inl rg)), (ps, .inl (cI, 24, .inl sl)), (pd, .inl (cI, 24, .inl (upd bo (u1 + 1) (bo u1)))), (ph, .inl (cI, 8, .inl rh)), (pq, .inl (cI, 24, .inl sh))] := hD
                  refine lv_iinc (v := nI u1) (lv' := [(2, .int (nI u1)), (0, .ref pl), (1, .int (nI v))]) hx hb d_Plc_orderByFirst_60 hl (k := 2) rfl (by rw [sm_dec]; exact nI_pred _) (by decide) rfl (fun ls hl => ?_)
                  refine lv_goto (tgt := 21) hx hb d_Plc_orderByFirst_63 (by decide) ?_
                  exact ih_21 u1 (upd bo (u1 + 1) (bo u1)) (by omega) (by rw [← hi, ins, if_neg c_43]) (by omega) _ _ (hP.sub [0, 1, 2, 3, 4, 5, 6, 7, 8] rfl) (hD.sub [0, 1, 2, 3, 4, 5, 6, 7, 8] (by decide) rfl) hS _ (lv_sub hl [1, 2, 0] rfl)
          exact loop_21 (w + 1) w go (Nat.le_refl w) rfl (by omega) _ _ (hP.sub [0, 1, 2, 3, 4, 5, 6, 7, 8] rfl) (hD.sub [0, 1, 2, 3, 4, 5, 6, 7, 8] (by decide) rfl) hS _ (lv_sub hl [1, 2, 0] rfl)
  exact loop_2 25 24 0 0 od rfl (Nat.le_refl 0) rfl (by decide) _ _ (hP.sub [0, 1, 2, 3, 4, 5, 6, 7, 8] rfl) (hD.sub [0, 1, 2, 3, 4, 5, 6, 7, 8] (by decide) rfl) hS _ (lv_sub hl [1, 0] rfl)
abbrev y_Plc_leastFree : MethodName := ⟨"ScanMill$Places", "leastFree", "([III)I"⟩
theorem d_Plc_leastFree_0 : decode prog_4_method_24_code 0 = .ok (.iconst 0, 1) := by decide +kernel
theorem d_Plc_leastFree_1 : decode prog_4_method_24_code 1 = .ok (.istore 4, 2) := by decide +kernel
theorem d_Plc_leastFree_3 : decode prog_4_method_24_code 3 = .ok (.iload 4, 2) := by decide +kernel
theorem d_Plc_leastFree_5 : decode prog_4_method_24_code 5 = .ok (.iload_n 2, 1) := by decide +kernel
theorem d_Plc_leastFree_6 : decode prog_4_method_24_code 6 = .ok (.if_icmp .ge 28, 3) := by decide +kernel
theorem d_Plc_leastFree_34 : decode prog_4_method_24_code 34 = .ok (.iconst (-1), 1) := by decide +kernel
theorem d_Plc_leastFree_35 : decode prog_4_method_24_code 35 = .ok (.ireturn, 1) := by decide +kernel
theorem d_Plc_leastFree_9 : decode prog_4_method_24_code 9 = .ok (.aload_n 0, 1) := by decide +kernel
theorem d_Plc_leastFree_10 : decode prog_4_method_24_code 10 = .ok (.aload_n 1, 1) := by decide +kernel
theorem d_Plc_leastFree_11 : decode prog_4_method_24_code 11 = .ok (.iload 4, 2) := by decide +kernel
theorem d_Plc_leastFree_13 : decode prog_4_method_24_code 13 = .ok (.iaload, 1) := by decide +kernel
theorem d_Plc_leastFree_14 : decode prog_4_method_24_code 14 = .ok (.invokevirtual 132, 3) := by decide +kernel
theorem mw_311 : Cond.code ⟨"ScanMill$Places", "lastOf", "(I)I"⟩ prog_4_method_5_code 2 (Option.some FieldType.int) ∈ wG := wG_t 311 (by decide +kernel) (by decide +kernel)
theorem mw_308 : Cond.methodLink "ScanMill$Places" 132 ⟨"ScanMill$Places", "lastOf", "(I)I"⟩ ∈ wG := wG_t 308 (by decide +kernel) (by decide +kernel)
theorem mw_309 : Cond.instanceMethod ⟨"ScanMill$Places", "lastOf", "(I)I"⟩ ∈ wG := wG_t 309 (by decide +kernel) (by decide +kernel)
theorem mw_310 : Cond.selects "ScanMill$Places" ⟨"ScanMill$Places", "lastOf", "(I)I"⟩ ⟨"ScanMill$Places", "lastOf", "(I)I"⟩ ∈ wG := wG_t 310 (by decide +kernel) (by decide +kernel)
theorem d_Plc_leastFree_17 : decode prog_4_method_24_code 17 = .ok (.aload_n 0, 1) := by decide +kernel
theorem d_Plc_leastFree_18 : decode prog_4_method_24_code 18 = .ok (.iload_n 3, 1) := by decide +kernel
theorem d_Plc_leastFree_19 : decode prog_4_method_24_code 19 = .ok (.invokevirtual 113, 3) := by decide +kernel
theorem d_Plc_leastFree_22 : decode prog_4_method_24_code 22 = .ok (.if_icmp .ge 6, 3) := by decide +kernel
theorem d_Plc_leastFree_28 : decode prog_4_method_24_code 28 = .ok (.iinc 4 1, 3) := by decide +kernel
theorem d_Plc_leastFree_31 : decode prog_4_method_24_code 31 = .ok (.goto (-28), 3) := by decide +kernel
theorem d_Plc_leastFree_25 : decode prog_4_method_24_code 25 = .ok (.iload 4, 2) := by decide +kernel
theorem d_Plc_leastFree_27 : decode prog_4_method_24_code 27 = .ok (.ireturn, 1) := by decide +kernel
set_option maxRecDepth 100000 in
set_option maxHeartbeats 4000000 in
theorem c_Plc_leastFreeR {l : Launch} {dC : Nat → ClassId} {dI : Nat → Nat → Nat} {cI cZ : ClassId} {pl pf pa po pr ps pd ph pq wo wr : Nat} {fi la ov rg sl od rh sh : Nat → Int32} {sc : Int32} {mm : Nat} {x : Int32} (hmm : mm ≤ 8) : sm_I l y_Plc_leastFree prog_4_method_24_code 5 (some .int) (rmF 2 41) (dC, dI) smC [(cI, .int), (cZ, .boolean)] [.ref pl, .ref ph, .int (nI mm), .int x] [(pl, .inr (2, [.ref pf, .ref pa, .ref po, .ref pr, .ref ps, .ref pd, .ref ph, .ref pq, .int (nI wo), .int (nI wr), .int sc])), (pf, .inl (cI, 24, .inl fi)), (pa, .inl (cI, 24, .inl la)), (po, .inl (cZ, 24, .inl ov)), (pr, .inl (cI, 24, .inl rg)), (ps, .inl (cI, 24, .inl sl)), (pd, .inl (cI, 24, .inl od)), (ph, .inl (cI, 8, .inl rh)), (pq, .inl (cI, 24, .inl sh))] (fun q w2 => q = (lF fi la rh x mm 0) ∧ w2 = [(pl, .inr (2, [.ref pf, .ref pa, .ref po, .ref pr, .ref ps, .ref pd, .ref ph, .ref pq, .int (nI wo), .int (nI wr), .int sc])), (pf, .inl (cI, 24, .inl fi)), (pa, .inl (cI, 24, .inl la)), (po, .inl (cZ, 24, .inl ov)), (pr, .inl (cI, 24, .inl rg)), (ps, .inl (cI, 24, .inl sl)), (pd, .inl (cI, 24, .inl od)), (ph, .inl (cI, 8, .inl rh)), (pq, .inl (cI, 24, .inl sh))]) := by
  refine sm_I.mk (by decide) (Nat.le_of_ble_eq_true rfl) ?_
  intro p e s m below meth c A H locs ls hx hb hr ht hown hlocks hml hnm hP hK hD hA hS hN hl
  have hl : lv_has ls 5 [(0, .ref pl), (1, .ref ph), (2, .int (nI mm)), (3, .int x)] := hl
  refine lv_iconst (v := 0) hx hb d_Plc_leastFree_0 (by decide) ?_
  refine lv_istore (lv' := [(4, .int ((0 : Int32))), (0, .ref pl), (1, .ref ph), (2, .int (nI mm)), (3, .int x)]) hx hb d_Plc_leastFree_1 hl (by decide) rfl (fun ls hl => ?_)
  have loop_3 : ∀ (N_3 : Nat) (q : Nat) (p2 : Nat), (q + p2 = mm) → (lF fi la rh x q p2 = lF fi la rh x mm 0) → q < N_3 → ∀ (H : Heap) (locs : List Loc), va_P (dC, dI) smC [(pl, .inr (2, [.ref pf, .ref pa, .ref po, .ref pr, .ref ps, .ref pd, .ref ph, .ref pq, .int (nI wo), .int (nI wr), .int sc])), (pf, .inl (cI, 24, .inl fi)), (pa, .inl (cI, 24, .inl la)), (po, .inl (cZ, 24, .inl ov)), (pr, .inl (cI, 24, .inl rg)), (ps, .inl (cI, 24, .inl sl)), (pd, .inl (cI, 24, .inl od)), (ph, .inl (cI, 8, .inl rh)), (pq, .inl (cI, 24, .inl sh))] H → va_D A [(pl, .inr (2, [.ref pf, .ref pa, .ref po, .ref pr, .ref ps, .ref pd, .ref ph, .ref pq, .int (nI wo), .int (nI wr), .int sc])), (pf, .inl (cI, 24, .inl fi)), (pa, .inl (cI, 24, .inl la)), (po, .inl (cZ, 24, .inl ov)), (pr, .inl (cI, 24, .inl rg)), (ps, .inl (cI, 24, .inl sl)), (pd, .inl (cI, 24, .inl od)), (ph, .inl (cI, 8, .inl rh)), (pq, .inl (cI, 24, .inl sh))] → va_S A s.heap H locs → ∀ ls : Array Slot, lv_has ls 5 [(0, .ref pl), (1, .ref ph), (2, .int (nI mm)), (3, .int x), (4, .int (nI p2))] → W p l e (rmF 2 41) s m ([.ref pl, .ref ph, .int (nI mm), .int x] : List Value).toArray below meth c H locs 0 0 (MQ below (va_Qi (fun q w2 => q = (lF fi la rh x mm 0) ∧ w2 = [(pl, .inr (2, [.ref pf, .ref pa, .ref po, .ref pr, .ref ps, .ref pd, .ref ph, .ref pq, .int (nI wo), .int (nI wr), .int sc])), (pf, .inl (cI, 24, .inl fi)), (pa, .inl (cI, 24, .inl la)), (po, .inl (cZ, 24, .inl ov)), (pr, .inl (cI, 24, .inl rg)), (ps, .inl (cI, 24, .inl sl)), (pd, .inl (cI, 24, .inl od)), (ph, .inl (cI, 8, .inl rh)), (pq, .inl (cI, 24, .inl sh))]) (sm_B (dC, dI) smC [(cI, .int), (cZ, .boolean)] A) A) ([.ref pl, .ref ph, .int (nI mm), .int x] : List Value).toArray s 0 0 A) (F0 m 3 ls []) := by
    intro N_3
    induction N_3 with
    | zero => intro q p2 _ _ z; exact absurd z (Nat.not_lt_zero _)
    | succ N_3 ih_3 =>
      intro q p2 hqp hv m_3 H locs hP hD hS ls hl
      refine lv_iload hx hb d_Plc_leastFree_3 (lv_at hl 4 rfl) ?_
      refine lv_iload_n hx hb d_Plc_leastFree_5 rfl (lv_at hl 2 rfl) ?_
      refine lv_icmp_ge (tgt := 34) hx hb d_Plc_leastFree_6 (by decide) (fun c_6 => ?_) (fun c_6 => ?_)
      · skip
        have f_6 : mm ≤ p2 := (nI_leI (a := mm) (b := p2) (by first | omega | decide) (by first | omega | decide)).mp c_6
        obtain rfl : q = 0 := by omega
        refine lv_iconst (v := -1) hx hb d_Plc_leastFree_34 (by decide) ?_
        refine sm_ri (v := (-1 : Int32)) (ws := [(pl, .inr (2, [.ref pf, .ref pa, .ref po, .ref pr, .ref ps, .ref pd, .ref ph, .ref pq, .int (nI wo), .int (nI wr), .int sc])), (pf, .inl (cI, 24, .inl fi)), (pa, .inl (cI, 24, .inl la)), (po, .inl (cZ, 24, .inl ov)), (pr, .inl (cI, 24, .inl rg)), (ps, .inl (cI, 24, .inl sl)), (pd, .inl (cI, 24, .inl od)), (ph, .inl (cI, 8, .inl rh)), (pq, .inl (cI, 24, .inl sh))]) hx hb hr hlocks hK (hP.sub [0, 1, 2, 3, 4, 5, 6, 7, 8] rfl) (hD.sub [0, 1, 2, 3, 4, 5, 6, 7, 8] (by decide) rfl) hS ?_ d_Plc_leastFree_35
        exact ⟨by rw [← hv]; rfl, rfl⟩
      · skip
        have f_6 : ¬ mm ≤ p2 := fun z => c_6 ((nI_leI (a := mm) (b := p2) (by first | omega | decide) (by first | omega | decide)).mpr z)
        obtain ⟨q1, rfl⟩ : ∃ z, q = z + 1 := ⟨q - 1, by omega⟩
        refine lv_aload_n hx hb d_Plc_leastFree_9 rfl (lv_at hl 0 rfl) ?_
        refine lv_aload_n hx hb d_Plc_leastFree_10 rfl (lv_at hl 1 rfl) ?_
        refine lv_iload hx hb d_Plc_leastFree_11 (lv_at hl 4 rfl) ?_
        refine sm_iald (j := p2) hx hb hK hP 7 0 rfl rfl (vp_in_nI (by first | omega | assumption) (by first | decide | omega)) (nI_clamp (by first | omega | (have := sm_lt31; omega))) d_Plc_leastFree_13 ?_
        refine sm_goi (wc := [(pl, .inr (2, [.ref pf, .ref pa, .ref po, .ref pr, .ref ps, .ref pd, .ref ph, .ref pq, .int (nI wo), .int (nI wr), .int sc])), (pf, .inl (cI, 24, .inl fi)), (pa, .inl (cI, 24, .inl la)), (po, .inl (cZ, 24, .inl ov)), (pr, .inl (cI, 24, .inl rg)), (ps, .inl (cI, 24, .inl sl)), (pd, .inl (cI, 24, .inl od)), (ph, .inl (cI, 8, .inl rh)), (pq, .inl (cI, 24, .inl sh))]) (wr := []) (va_runV (As := [.int (rh p2)]) (rest := []) ⟨hx, hb, hml, hown, ht⟩ ((c_Plc_lastOf (l := l) (dC := dC) (dI := dI) (cI := cI) (cZ := cZ) (pl := pl) (pf := pf) (pa := pa) (po := po) (pr := pr) (ps := ps) (pd := pd) (ph := ph) (pq := pq) (wo := wo) (wr := wr) (fi := fi) (la := la) (ov := ov) (rg := rg) (sl := sl) (od := od) (rh := rh) (sh := sh) (sc := sc) (v := rh p2) ).at H.size) (sm_cV 1 ht mw_311 mw_4 mw_308 mw_309 mw_310 rfl rfl (by decide +kernel) ⟨Nat.le_of_ble_eq_true rfl, Nat.le_of_ble_eq_true rfl⟩) (sm_preV (ci := 2) hN hK hP hD [0, 1, 2, 3, 4, 5, 6, 7, 8] rfl rfl (by decide) 0 rfl rfl) rfl rfl hl.1 rfl (lv_room (Nat.le_of_ble_eq_true rfl)) d_Plc_leastFree_14 ⟨Nat.zero_le _, Nat.zero_le _⟩) hP hD hS hA [0, 1, 2, 3, 4, 5, 6, 7, 8] [] rfl rfl (by decide) (by decide) (fun r_14 w_14 H locs q_14 hP hD hS => ?_)
        obtain ⟨rfl, rfl⟩ := q_14
        have hP : va_P (dC, dI) smC [(pl, .inr (2, [.ref pf, .ref pa, .ref po, .ref pr, .ref ps, .ref pd, .ref ph, .ref pq, .int (nI wo), .int (nI wr), .int sc])), (pf, .inl (cI, 24, .inl fi)), (pa, .inl (cI, 24, .inl la)), (po, .inl (cZ, 24, .inl ov)), (pr, .inl (cI, 24, .inl rg)), (ps, .inl (cI, 24, .inl sl)), (pd, .inl (cI, 24, .inl od)), (ph, .inl (cI, 8, .inl rh)), (pq, .inl (cI, 24, .inl sh))] H := hP
        have hD : va_D A [(pl, .inr (2, [.ref pf, .ref pa, .ref po, .ref pr, .ref ps, .ref pd, .ref ph, .ref pq, .int (nI wo), .int (nI wr), .int sc])), (pf, .inl (cI, 24, .inl fi)), (pa, .inl (cI, 24, .inl la)), (po, .inl (cZ, 24, .inl ov)), (pr, .inl (cI, 24, .inl rg)), (ps, .inl (cI, 24, .inl sl)), (pd, .inl (cI, 24, .inl od)), (ph, .inl (cI, 8, .inl rh)), (pq, .inl (cI, 24, .inl sh))] := hD
        refine lv_aload_n hx hb d_Plc_leastFree_17 rfl (lv_at hl 0 rfl) ?_
        refine lv_iload_n hx hb d_Plc_leastFree_18 rfl (lv_at hl 3 rfl) ?_
        refine sm_goi (wc := [(pl, .inr (2, [.ref pf, .ref pa, .ref po, .ref pr, .ref ps, .ref pd, .ref ph, .ref pq, .int (nI wo), .int (nI wr), .int sc])), (pf, .inl (cI, 24, .inl fi)), (pa, .inl (cI, 24, .inl la)), (po, .inl (cZ, 24, .inl ov)), (pr, .inl (cI, 24, .inl rg)), (ps, .inl (cI, 24, .inl sl)), (pd, .inl (cI, 24, .inl od)), (ph, .inl (cI, 8, .inl rh)), (pq, .inl (cI, 24, .inl sh))]) (wr := []) (va_runV (As := [.int x]) (rest := [.int (fO la (rh p2))]) ⟨hx, hb, hml, hown, ht⟩ ((c_Plc_firstOf (l := l) (dC := dC) (dI := dI) (cI := cI) (cZ := cZ) (pl := pl) (pf := pf) (pa := pa) (po := po) (pr := pr) (ps := ps) (pd := pd) (ph := ph) (pq := pq) (wo := wo) (wr := wr) (fi := fi) (la := la) (ov := ov) (rg := rg) (sl := sl) (od := od) (rh := rh) (sh := sh) (sc := sc) (v := x) ).at H.size) (sm_cV 1 ht mw_291 mw_4 mw_288 mw_289 mw_290 rfl rfl (by decide +kernel) ⟨Nat.le_of_ble_eq_true rfl, Nat.le_of_ble_eq_true rfl⟩) (sm_preV (ci := 2) hN hK hP hD [0, 1, 2, 3, 4, 5, 6, 7, 8] rfl rfl (by decide) 0 rfl rfl) rfl rfl hl.1 rfl (lv_room (Nat.le_of_ble_eq_true rfl)) d_Plc_leastFree_19 ⟨Nat.zero_le _, Nat.zero_le _⟩) hP hD hS hA [0, 1, 2, 3, 4, 5, 6, 7, 8] [] rfl rfl (by decide) (by decide) (fun r_19 w_19 H locs q_19 hP hD hS => ?_)
        obtain ⟨rfl, rfl⟩ := q_19
        have hP : va_P (dC, dI) smC [(pl, .inr (2, [.ref pf, .ref pa, .ref po, .ref pr, .ref ps, .ref pd, .ref ph, .ref pq, .int (nI wo), .int (nI wr), .int sc])), (pf, .inl (cI, 24, .inl fi)), (pa, .inl (cI, 24, .inl la)), (po, .inl (cZ, 24, .inl ov)), (pr, .inl (cI, 24, .inl rg)), (ps, .inl (cI, 24, .inl sl)), (pd, .inl (cI, 24, .inl od)), (ph, .inl (cI, 8, .inl rh)), (pq, .inl (cI, 24, .inl sh))] H := hP
        have hD : va_D A [(pl, .inr (2, [.ref pf, .ref pa, .ref po, .ref pr, .ref ps, .ref pd, .ref ph, .ref pq, .int (nI wo), .int (nI wr), .int sc])), (pf, .inl (cI, 24, .inl fi)), (pa, .inl (cI, 24, .inl la)), (po, .inl (cZ, 24, .inl ov)), (pr, .inl (cI, 24, .inl rg)), (ps, .inl (cI, 24, .inl sl)), (pd, .inl (cI, 24, .inl od)), (ph, .inl (cI, 8, .inl rh)), (pq, .inl (cI, 24, .inl sh))] := hD
        refine lv_icmp_ge (tgt := 28) hx hb d_Plc_leastFree_22 (by decide) (fun c_22 => ?_) (fun c_22 => ?_)
        · skip
          refine lv_iinc (v := nI (p2 + 1)) (lv' := [(4, .int (nI (p2 + 1))), (0, .ref pl), (1, .ref ph), (2, .int (nI mm)), (3, .int x)]) hx hb d_Plc_leastFree_28 hl (k := 4) rfl (nI_add p2 1) (by decide) rfl (fun ls hl => ?_)
          refine lv_goto (tgt := 3) hx hb d_Plc_leastFree_31 (by decide) ?_
          exact ih_3 q1 (p2 + 1) (by omega) (by rw [← hv, lF, if_pos c_22]) (by omega) _ _ (hP.sub [0, 1, 2, 3, 4, 5, 6, 7, 8] rfl) (hD.sub [0, 1, 2, 3, 4, 5, 6, 7, 8] (by decide) rfl) hS _ (lv_sub hl [1, 2, 3, 4, 0] rfl)
        · skip
          refine lv_iload hx hb d_Plc_leastFree_25 (lv_at hl 4 rfl) ?_
          refine sm_ri (v := nI p2) (ws := [(pl, .inr (2, [.ref pf, .ref pa, .ref po, .ref pr, .ref ps, .ref pd, .ref ph, .ref pq, .int (nI wo), .int (nI wr), .int sc])), (pf, .inl (cI, 24, .inl fi)), (pa, .inl (cI, 24, .inl la)), (po, .inl (cZ, 24, .inl ov)), (pr, .inl (cI, 24, .inl rg)), (ps, .inl (cI, 24, .inl sl)), (pd, .inl (cI, 24, .inl od)), (ph, .inl (cI, 8, .inl rh)), (pq, .inl (cI, 24, .inl sh))]) hx hb hr hlocks hK (hP.sub [0, 1, 2, 3, 4, 5, 6, 7, 8] rfl) (hD.sub [0, 1, 2, 3, 4, 5, 6, 7, 8] (by decide) rfl) hS ?_ d_Plc_leastFree_27
          exact ⟨by rw [← hv, lF, if_neg c_22], rfl⟩
  exact loop_3 (mm + 1) mm 0 (by omega) rfl (by omega) _ _ (hP.sub [0, 1, 2, 3, 4, 5, 6, 7, 8] rfl) (hD.sub [0, 1, 2, 3, 4, 5, 6, 7, 8] (by decide) rfl) hS _ (lv_sub hl [1, 2, 3, 4, 0] rfl)
set_option maxRecDepth 100000 in
set_option maxHeartbeats 4000000 in
theorem c_Plc_leastFreeS {l : Launch} {dC : Nat → ClassId} {dI : Nat → Nat → Nat} {cI cZ : ClassId} {pl pf pa po pr ps pd ph pq wo wr : Nat} {fi la ov rg sl od rh sh : Nat → Int32} {sc : Int32} {mm : Nat} {x : Int32} (hmm : mm ≤ 24) : sm_I l y_Plc_leastFree prog_4_method_24_code 5 (some .int) (rmF 2 41) (dC, dI) smC [(cI, .int), (cZ, .boolean)] [.ref pl, .ref pq, .int (nI mm), .int x] [(pl, .inr (2, [.ref pf, .ref pa, .ref po, .ref pr, .ref ps, .ref pd, .ref ph, .ref pq, .int (nI wo), .int (nI wr), .int sc])), (pf, .inl (cI, 24, .inl fi)), (pa, .inl (cI, 24, .inl la)), (po, .inl (cZ, 24, .inl ov)), (pr, .inl (cI, 24, .inl rg)), (ps, .inl (cI, 24, .inl sl)), (pd, .inl (cI, 24, .inl od)), (ph, .inl (cI, 8, .inl rh)), (pq, .inl (cI, 24, .inl sh))] (fun q w2 => q = (lF fi la sh x mm 0) ∧ w2 = [(pl, .inr (2, [.ref pf, .ref pa, .ref po, .ref pr, .ref ps, .ref pd, .ref ph, .ref pq, .int (nI wo), .int (nI wr), .int sc])), (pf, .inl (cI, 24, .inl fi)), (pa, .inl (cI, 24, .inl la)), (po, .inl (cZ, 24, .inl ov)), (pr, .inl (cI, 24, .inl rg)), (ps, .inl (cI, 24, .inl sl)), (pd, .inl (cI, 24, .inl od)), (ph, .inl (cI, 8, .inl rh)), (pq, .inl (cI, 24, .inl sh))]) := by
  refine sm_I.mk (by decide) (Nat.le_of_ble_eq_true rfl) ?_
  intro p e s m below meth c A H locs ls hx hb hr ht hown hlocks hml hnm hP hK hD hA hS hN hl
  have hl : lv_has ls 5 [(0, .ref pl), (1, .ref pq), (2, .int (nI mm)), (3, .int x)] := hl
  refine lv_iconst (v := 0) hx hb d_Plc_leastFree_0 (by decide) ?_
  refine lv_istore (lv' := [(4, .int ((0 : Int32))), (0, .ref pl), (1, .ref pq), (2, .int (nI mm)), (3, .int x)]) hx hb d_Plc_leastFree_1 hl (by decide) rfl (fun ls hl => ?_)
  have loop_3 : ∀ (N_3 : Nat) (q : Nat) (p2 : Nat), (q + p2 = mm) → (lF fi la sh x q p2 = lF fi la sh x mm 0) → q < N_3 → ∀ (H : Heap) (locs : List Loc), va_P (dC, dI) smC [(pl, .inr (2, [.ref pf, .ref pa, .ref po, .ref pr, .ref ps, .ref pd, .ref ph, .ref pq, .int (nI wo), .int (nI wr), .int sc])), (pf, .inl (cI, 24, .inl fi)), (pa, .inl (cI, 24, .inl la)), (po, .inl (cZ, 24, .inl ov)), (pr, .inl (cI, 24, .inl rg)), (ps, .inl (cI, 24, .inl sl)), (pd, .inl (cI, 24, .inl od)), (ph, .inl (cI, 8, .inl rh)), (pq, .inl (cI, 24, .inl sh))] H → va_D A [(pl, .inr (2, [.ref pf, .ref pa, .ref po, .ref pr, .ref ps, .ref pd, .ref ph, .ref pq, .int (nI wo), .int (nI wr), .int sc])), (pf, .inl (cI, 24, .inl fi)), (pa, .inl (cI, 24, .inl la)), (po, .inl (cZ, 24, .inl ov)), (pr, .inl (cI, 24, .inl rg)), (ps, .inl (cI, 24, .inl sl)), (pd, .inl (cI, 24, .inl od)), (ph, .inl (cI, 8, .inl rh)), (pq, .inl (cI, 24, .inl sh))] → va_S A s.heap H locs → ∀ ls : Array Slot, lv_has ls 5 [(0, .ref pl), (1, .ref pq), (2, .int (nI mm)), (3, .int x), (4, .int (nI p2))] → W p l e (rmF 2 41) s m ([.ref pl, .ref pq, .int (nI mm), .int x] : List Value).toArray below meth c H locs 0 0 (MQ below (va_Qi (fun q w2 => q = (lF fi la sh x mm 0) ∧ w2 = [(pl, .inr (2, [.ref pf, .ref pa, .ref po, .ref pr, .ref ps, .ref pd, .ref ph, .ref pq, .int (nI wo), .int (nI wr), .int sc])), (pf, .inl (cI, 24, .inl fi)), (pa, .inl (cI, 24, .inl la)), (po, .inl (cZ, 24, .inl ov)), (pr, .inl (cI, 24, .inl rg)), (ps, .inl (cI, 24, .inl sl)), (pd, .inl (cI, 24, .inl od)), (ph, .inl (cI, 8, .inl rh)), (pq, .inl (cI, 24, .inl sh))]) (sm_B (dC, dI) smC [(cI, .int), (cZ, .boolean)] A) A) ([.ref pl, .ref pq, .int (nI mm), .int x] : List Value).toArray s 0 0 A) (F0 m 3 ls []) := by
    intro N_3
    induction N_3 with
    | zero => intro q p2 _ _ z; exact absurd z (Nat.not_lt_zero _)
    | succ N_3 ih_3 =>
      intro q p2 hqp hv m_3 H locs hP hD hS ls hl
      refine lv_iload hx hb d_Plc_leastFree_3 (lv_at hl 4 rfl) ?_
      refine lv_iload_n hx hb d_Plc_leastFree_5 rfl (lv_at hl 2 rfl) ?_
      refine lv_icmp_ge (tgt := 34) hx hb d_Plc_leastFree_6 (by decide) (fun c_6 => ?_) (fun c_6 => ?_)
      · skip
        have f_6 : mm ≤ p2 := (nI_leI (a := mm) (b := p2) (by first | omega | decide) (by first | omega | decide)).mp c_6
        obtain rfl : q = 0 := by omega
        refine lv_iconst (v := -1) hx hb d_Plc_leastFree_34 (by decide) ?_
        refine sm_ri (v := (-1 : Int32)) (ws := [(pl, .inr (2, [.ref pf, .ref pa, .ref po, .ref pr, .ref ps, .ref pd, .ref ph, .ref pq, .int (nI wo), .int (nI wr), .int sc])), (pf, .inl (cI, 24, .inl fi)), (pa, .inl (cI, 24, .inl la)), (po, .inl (cZ, 24, .inl ov)), (pr, .inl (cI, 24, .inl rg)), (ps, .inl (cI, 24, .inl sl)), (pd, .inl (cI, 24, .inl od)), (ph, .inl (cI, 8, .inl rh)), (pq, .inl (cI, 24, .inl sh))]) hx hb hr hlocks hK (hP.sub [0, 1, 2, 3, 4, 5, 6, 7, 8] rfl) (hD.sub [0, 1, 2, 3, 4, 5, 6, 7, 8] (by decide) rfl) hS ?_ d_Plc_leastFree_35
        exact ⟨by rw [← hv]; rfl, rfl⟩
      · skip
        have f_6 : ¬ mm ≤ p2 := fun z => c_6 ((nI_leI (a := mm) (b := p2) (by first | omega | decide) (by first | omega | decide)).mpr z)
        obtain ⟨q1, rfl⟩ : ∃ z, q = z + 1 := ⟨q - 1, by omega⟩
        refine lv_aload_n hx hb d_Plc_leastFree_9 rfl (lv_at hl 0 rfl) ?_
        refine lv_aload_n hx hb d_Plc_leastFree_10 rfl (lv_at hl 1 rfl) ?_
        refine lv_iload hx hb d_Plc_leastFree_11 (lv_at hl 4 rfl) ?_
        refine sm_iald (j := p2) hx hb hK hP 8 0 rfl rfl (vp_in_nI (by first | omega | assumption) (by first | decide | omega)) (nI_clamp (by first | omega | (have := sm_lt31; omega))) d_Plc_leastFree_13 ?_
        refine sm_goi (wc := [(pl, .inr (2, [.ref pf, .ref pa, .ref po, .ref pr, .ref ps, .ref pd, .ref ph, .ref pq, .int (nI wo), .int (nI wr), .int sc])), (pf, .inl (cI, 24, .inl fi)), (pa, .inl (cI, 24, .inl la)), (po, .inl (cZ, 24, .inl ov)), (pr, .inl (cI, 24, .inl rg)), (ps, .inl (cI, 24, .inl sl)), (pd, .inl (cI, 24, .inl od)), (ph, .inl (cI, 8, .inl rh)), (pq, .inl (cI, 24, .inl sh))]) (wr := []) (va_runV (As := [.int (sh p2)]) (rest := []) ⟨hx, hb, hml, hown, ht⟩ ((c_Plc_lastOf (l := l) (dC := dC) (dI := dI) (cI := cI) (cZ := cZ) (pl := pl) (pf := pf) (pa := pa) (po := po) (pr := pr) (ps := ps) (pd := pd) (ph := ph) (pq := pq) (wo := wo) (wr := wr) (fi := fi) (la := la) (ov := ov) (rg := rg) (sl := sl) (od := od) (rh := rh) (sh := sh) (sc := sc) (v := sh p2) ).at H.size) (sm_cV 1 ht mw_311 mw_4 mw_308 mw_309 mw_310 rfl rfl (by decide +kernel) ⟨Nat.le_of_ble_eq_true rfl, Nat.le_of_ble_eq_true rfl⟩) (sm_preV (ci := 2) hN hK hP hD [0, 1, 2, 3, 4, 5, 6, 7, 8] rfl rfl (by decide) 0 rfl rfl) rfl rfl hl.1 rfl (lv_room (Nat.le_of_ble_eq_true rfl)) d_Plc_leastFree_14 ⟨Nat.zero_le _, Nat.zero_le _⟩) hP hD hS hA [0, 1, 2, 3, 4, 5, 6, 7, 8] [] rfl rfl (by decide) (by decide) (fun r_14 w_14 H locs q_14 hP hD hS => ?_)
        obtain ⟨rfl, rfl⟩ := q_14
        have hP : va_P (dC, dI) smC [(pl, .inr (2, [.ref pf, .ref pa, .ref po, .ref pr, .ref ps, .ref pd, .ref ph, .ref pq, .int (nI wo), .int (nI wr), .int sc])), (pf, .inl (cI, 24, .inl fi)), (pa, .inl (cI, 24, .inl la)), (po, .inl (cZ, 24, .inl ov)), (pr, .inl (cI, 24, .inl rg)), (ps, .inl (cI, 24, .inl sl)), (pd, .inl (cI, 24, .inl od)), (ph, .inl (cI, 8, .inl rh)), (pq, .inl (cI, 24, .inl sh))] H := hP
        have hD : va_D A [(pl, .inr (2, [.ref pf, .ref pa, .ref po, .ref pr, .ref ps, .ref pd, .ref ph, .ref pq, .int (nI wo), .int (nI wr), .int sc])), (pf, .inl (cI, 24, .inl fi)), (pa, .inl (cI, 24, .inl la)), (po, .inl (cZ, 24, .inl ov)), (pr, .inl (cI, 24, .inl rg)), (ps, .inl (cI, 24, .inl sl)), (pd, .inl (cI, 24, .inl od)), (ph, .inl (cI, 8, .inl rh)), (pq, .inl (cI, 24, .inl sh))] := hD
        refine lv_aload_n hx hb d_Plc_leastFree_17 rfl (lv_at hl 0 rfl) ?_
        refine lv_iload_n hx hb d_Plc_leastFree_18 rfl (lv_at hl 3 rfl) ?_
        refine sm_goi (wc := [(pl, .inr (2, [.ref pf, .ref pa, .ref po, .ref pr, .ref ps, .ref pd, .ref ph, .ref pq, .int (nI wo), .int (nI wr), .int sc])), (pf, .inl (cI, 24, .inl fi)), (pa, .inl (cI, 24, .inl la)), (po, .inl (cZ, 24, .inl ov)), (pr, .inl (cI, 24, .inl rg)), (ps, .inl (cI, 24, .inl sl)), (pd, .inl (cI, 24, .inl od)), (ph, .inl (cI, 8, .inl rh)), (pq, .inl (cI, 24, .inl sh))]) (wr := []) (va_runV (As := [.int x]) (rest := [.int (fO la (sh p2))]) ⟨hx, hb, hml, hown, ht⟩ ((c_Plc_firstOf (l := l) (dC := dC) (dI := dI) (cI := cI) (cZ := cZ) (pl := pl) (pf := pf) (pa := pa) (po := po) (pr := pr) (ps := ps) (pd := pd) (ph := ph) (pq := pq) (wo := wo) (wr := wr) (fi := fi) (la := la) (ov := ov) (rg := rg) (sl := sl) (od := od) (rh := rh) (sh := sh) (sc := sc) (v := x) ).at H.size) (sm_cV 1 ht mw_291 mw_4 mw_288 mw_289 mw_290 rfl rfl (by decide +kernel) ⟨Nat.le_of_ble_eq_true rfl, Nat.le_of_ble_eq_true rfl⟩) (sm_preV (ci := 2) hN hK hP hD [0, 1, 2, 3, 4, 5, 6, 7, 8] rfl rfl (by decide) 0 rfl rfl) rfl rfl hl.1 rfl (lv_room (Nat.le_of_ble_eq_true rfl)) d_Plc_leastFree_19 ⟨Nat.zero_le _, Nat.zero_le _⟩) hP hD hS hA [0, 1, 2, 3, 4, 5, 6, 7, 8] [] rfl rfl (by decide) (by decide) (fun r_19 w_19 H locs q_19 hP hD hS => ?_)
        obtain ⟨rfl, rfl⟩ := q_19
        have hP : va_P (dC, dI) smC [(pl, .inr (2, [.ref pf, .ref pa, .ref po, .ref pr, .ref ps, .ref pd, .ref ph, .ref pq, .int (nI wo), .int (nI wr), .int sc])), (pf, .inl (cI, 24, .inl fi)), (pa, .inl (cI, 24, .inl la)), (po, .inl (cZ, 24, .inl ov)), (pr, .inl (cI, 24, .inl rg)), (ps, .inl (cI, 24, .inl sl)), (pd, .inl (cI, 24, .inl od)), (ph, .inl (cI, 8, .inl rh)), (pq, .inl (cI, 24, .inl sh))] H := hP
        have hD : va_D A [(pl, .inr (2, [.ref pf, .ref pa, .ref po, .ref pr, .ref ps, .ref pd, .ref ph, .ref pq, .int (nI wo), .int (nI wr), .int sc])), (pf, .inl (cI, 24, .inl fi)), (pa, .inl (cI, 24, .inl la)), (po, .inl (cZ, 24, .inl ov)), (pr, .inl (cI, 24, .inl rg)), (ps, .inl (cI, 24, .inl sl)), (pd, .inl (cI, 24, .inl od)), (ph, .inl (cI, 8, .inl rh)), (pq, .inl (cI, 24, .inl sh))] := hD
        refine lv_icmp_ge (tgt := 28) hx hb d_Plc_leastFree_22 (by decide) (fun c_22 => ?_) (fun c_22 => ?_)
        · skip
          refine lv_iinc (v := nI (p2 + 1)) (lv' := [(4, .int (nI (p2 + 1))), (0, .ref pl), (1, .ref pq), (2, .int (nI mm)), (3, .int x)]) hx hb d_Plc_leastFree_28 hl (k := 4) rfl (nI_add p2 1) (by decide) rfl (fun ls hl => ?_)
          refine lv_goto (tgt := 3) hx hb d_Plc_leastFree_31 (by decide) ?_
          exact ih_3 q1 (p2 + 1) (by omega) (by rw [← hv, lF, if_pos c_22]) (by omega) _ _ (hP.sub [0, 1, 2, 3, 4, 5, 6, 7, 8] rfl) (hD.sub [0, 1, 2, 3, 4, 5, 6, 7, 8] (by decide) rfl) hS _ (lv_sub hl [1, 2, 3, 4, 0] rfl)
        · skip
          refine lv_iload hx hb d_Plc_leastFree_25 (lv_at hl 4 rfl) ?_
          refine sm_ri (v := nI p2) (ws := [(pl, .inr (2, [.ref pf, .ref pa, .ref po, .ref pr, .ref ps, .ref pd, .ref ph, .ref pq, .int (nI wo), .int (nI wr), .int sc])), (pf, .inl (cI, 24, .inl fi)), (pa, .inl (cI, 24, .inl la)), (po, .inl (cZ, 24, .inl ov)), (pr, .inl (cI, 24, .inl rg)), (ps, .inl (cI, 24, .inl sl)), (pd, .inl (cI, 24, .inl od)), (ph, .inl (cI, 8, .inl rh)), (pq, .inl (cI, 24, .inl sh))]) hx hb hr hlocks hK (hP.sub [0, 1, 2, 3, 4, 5, 6, 7, 8] rfl) (hD.sub [0, 1, 2, 3, 4, 5, 6, 7, 8] (by decide) rfl) hS ?_ d_Plc_leastFree_27
          exact ⟨by rw [← hv, lF, if_neg c_22], rfl⟩
  exact loop_3 (mm + 1) mm 0 (by omega) rfl (by omega) _ _ (hP.sub [0, 1, 2, 3, 4, 5, 6, 7, 8] rfl) (hD.sub [0, 1, 2, 3, 4, 5, 6, 7, 8] (by decide) rfl) hS _ (lv_sub hl [1, 2, 3, 4, 0] rfl)
abbrev y_Plc_registerHeldLongest : MethodName := ⟨"ScanMill$Places", "registerHeldLongest", "()I"⟩
theorem d_Plc_registerHeldLongest_0 : decode prog_4_method_21_code 0 = .ok (.iconst (-1), 1) := by decide +kernel
theorem d_Plc_registerHeldLongest_1 : decode prog_4_method_21_code 1 = .ok (.istore_n 1, 1) := by decide +kernel
theorem d_Plc_registerHeldLongest_2 : decode prog_4_method_21_code 2 = .ok (.bipush (-2), 2) := by decide +kernel
theorem d_Plc_registerHeldLongest_4 : decode prog_4_method_21_code 4 = .ok (.istore_n 2, 1) := by decide +kernel
theorem d_Plc_registerHeldLongest_5 : decode prog_4_method_21_code 5 = .ok (.iconst 0, 1) := by decide +kernel
theorem d_Plc_registerHeldLongest_6 : decode prog_4_method_21_code 6 = .ok (.istore_n 3, 1) := by decide +kernel
theorem d_Plc_registerHeldLongest_7 : decode prog_4_method_21_code 7 = .ok (.iload_n 3, 1) := by decide +kernel
theorem d_Plc_registerHeldLongest_8 : decode prog_4_method_21_code 8 = .ok (.aload_n 0, 1) := by decide +kernel
theorem d_Plc_registerHeldLongest_9 : decode prog_4_method_21_code 9 = .ok (.getfield 41, 3) := by decide +kernel
theorem d_Plc_registerHeldLongest_12 : decode prog_4_method_21_code 12 = .ok (.if_icmp .ge 32, 3) := by decide +kernel
theorem d_Plc_registerHeldLongest_44 : decode prog_4_method_21_code 44 = .ok (.iload_n 1, 1) := by decide +kernel
theorem d_Plc_registerHeldLongest_45 : decode prog_4_method_21_code 45 = .ok (.ireturn, 1) := by decide +kernel
theorem d_Plc_registerHeldLongest_15 : decode prog_4_method_21_code 15 = .ok (.aload_n 0, 1) := by decide +kernel
theorem d_Plc_registerHeldLongest_16 : decode prog_4_method_21_code 16 = .ok (.aload_n 0, 1) := by decide +kernel
theorem d_Plc_registerHeldLongest_17 : decode prog_4_method_21_code 17 = .ok (.getfield 31, 3) := by decide +kernel
theorem d_Plc_registerHeldLongest_20 : decode prog_4_method_21_code 20 = .ok (.iload_n 3, 1) := by decide +kernel
theorem d_Plc_registerHeldLongest_21 : decode prog_4_method_21_code 21 = .ok (.iaload, 1) := by decide +kernel
theorem d_Plc_registerHeldLongest_22 : decode prog_4_method_21_code 22 = .ok (.invokevirtual 132, 3) := by decide +kernel
theorem d_Plc_registerHeldLongest_25 : decode prog_4_method_21_code 25 = .ok (.istore 4, 2) := by decide +kernel
theorem d_Plc_registerHeldLongest_27 : decode prog_4_method_21_code 27 = .ok (.iload 4, 2) := by decide +kernel
theorem d_Plc_registerHeldLongest_29 : decode prog_4_method_21_code 29 = .ok (.iload_n 2, 1) := by decide +kernel
theorem d_Plc_registerHeldLongest_30 : decode prog_4_method_21_code 30 = .ok (.if_icmp .lt 8, 3) := by decide +kernel
theorem d_Plc_registerHeldLongest_38 : decode prog_4_method_21_code 38 = .ok (.iinc 3 1, 3) := by decide +kernel
theorem d_Plc_registerHeldLongest_41 : decode prog_4_method_21_code 41 = .ok (.goto (-34), 3) := by decide +kernel
theorem d_Plc_registerHeldLongest_33 : decode prog_4_method_21_code 33 = .ok (.iload 4, 2) := by decide +kernel
theorem d_Plc_registerHeldLongest_35 : decode prog_4_method_21_code 35 = .ok (.istore_n 2, 1) := by decide +kernel
theorem d_Plc_registerHeldLongest_36 : decode prog_4_method_21_code 36 = .ok (.iload_n 3, 1) := by decide +kernel
theorem d_Plc_registerHeldLongest_37 : decode prog_4_method_21_code 37 = .ok (.istore_n 1, 1) := by decide +kernel
set_option maxRecDepth 100000 in
set_option maxHeartbeats 4000000 in
theorem c_Plc_registerHeldLongest {l : Launch} {dC : Nat → ClassId} {dI : Nat → Nat → Nat} {cI cZ : ClassId} {pl pf pa po pr ps pd ph pq wo wr : Nat} {fi la ov rg sl od rh sh : Nat → Int32} {sc : Int32} (hwr : wr ≤ 8) : sm_I l y_Plc_registerHeldLongest prog_4_method_21_code 5 (some .int) (rmF 2 41) (dC, dI) smC [(cI, .int), (cZ, .boolean)] [.ref pl] [(pl, .inr (2, [.ref pf, .ref pa, .ref po, .ref pr, .ref ps, .ref pd, .ref ph, .ref pq, .int (nI wo), .int (nI wr), .int sc])), (pf, .inl (cI, 24, .inl fi)), (pa, .inl (cI, 24, .inl la)), (po, .inl (cZ, 24, .inl ov)), (pr, .inl (cI, 24, .inl rg)), (ps, .inl (cI, 24, .inl sl)), (pd, .inl (cI, 24, .inl od)), (ph, .inl (cI, 8, .inl rh)), (pq, .inl (cI, 24, .inl sh))] (fun q w2 => q = (rhl la rh wr 0 (-1) (-2)) ∧ w2 = [(pl, .inr (2, [.ref pf, .ref pa, .ref po, .ref pr, .ref ps, .ref pd, .ref ph, .ref pq, .int (nI wo), .int (nI wr), .int sc])), (pf, .inl (cI, 24, .inl fi)), (pa, .inl (cI, 24, .inl la)), (po, .inl (cZ, 24, .inl ov)), (pr, .inl (cI, 24, .inl rg)), (ps, .inl (cI, 24, .inl sl)), (pd, .inl (cI, 24, .inl od)), (ph, .inl (cI, 8, .inl rh)), (pq, .inl (cI, 24, .inl sh))]) := by
  refine sm_I.mk (by decide) (Nat.le_of_ble_eq_true rfl) ?_
  intro p e s m below meth c A H locs ls hx hb hr ht hown hlocks hml hnm hP hK hD hA hS hN hl
  have hl : lv_has ls 5 [(0, .ref pl)] := hl
  refine lv_iconst (v := -1) hx hb d_Plc_registerHeldLongest_0 (by decide) ?_
  refine lv_istore_n (lv' := [(1, .int ((-1 : Int32))), (0, .ref pl)]) hx hb d_Plc_registerHeldLongest_1 rfl hl (by decide) rfl (fun ls hl => ?_)
  refine lv_bipush (v := -2) hx hb d_Plc_registerHeldLongest_2 (by decide) ?_
  refine lv_istore_n (lv' := [(2, .int ((-2 : Int32))), (1, .int ((-1 : Int32))), (0, .ref pl)]) hx hb d_Plc_registerHeldLongest_4 rfl hl (by decide) rfl (fun ls hl => ?_)
  refine lv_iconst (v := 0) hx hb d_Plc_registerHeldLongest_5 (by decide) ?_
  refine lv_istore_n (lv' := [(3, .int ((0 : Int32))), (2, .int ((-2 : Int32))), (1, .int ((-1 : Int32))), (0, .ref pl)]) hx hb d_Plc_registerHeldLongest_6 rfl hl (by decide) rfl (fun ls hl => ?_)
  have loop_7 : ∀ (N_7 : Nat) (q : Nat) (p2 : Nat) (f1 : Int32) (g1 : Int32), (q + p2 = wr) → (rhl la rh q p2 f1 g1 = rhl la rh wr 0 (-1) (-2)) → q < N_7 → ∀ (H : Heap) (locs : List Loc), va_P (dC, dI) smC [(pl, .inr (2, [.ref pf, .ref pa, .ref po, .ref pr, .ref ps, .ref pd, .ref ph, .ref pq, .int (nI wo), .int (nI wr), .int sc])), (pf, .inl (cI, 24, .inl fi)), (pa, .inl (cI, 24, .inl la)), (po, .inl (cZ, 24, .inl ov)), (pr, .inl (cI, 24, .inl rg)), (ps, .inl (cI, 24, .inl sl)), (pd, .inl (cI, 24, .inl od)), (ph, .inl (cI, 8, .inl rh)), (pq, .inl (cI, 24, .inl sh))] H → va_D A [(pl, .inr (2, [.ref pf, .ref pa, .ref po, .ref pr, .ref ps, .ref pd, .ref ph, .ref pq, .int (nI wo), .int (nI wr), .int sc])), (pf, .inl (cI, 24, .inl fi)), (pa, .inl (cI, 24, .inl la)), (po, .inl (cZ, 24, .inl ov)), (pr, .inl (cI, 24, .inl rg)), (ps, .inl (cI, 24, .inl sl)), (pd, .inl (cI, 24, .inl od)), (ph, .inl (cI, 8, .inl rh)), (pq, .inl (cI, 24, .inl sh))] → va_S A s.heap H locs → ∀ ls : Array Slot, lv_has ls 5 [(0, .ref pl), (1, .int f1), (2, .int g1), (3, .int (nI p2))] → W p l e (rmF 2 41) s m ([.ref pl] : List Value).toArray below meth c H locs 0 0 (MQ below (va_Qi (fun q w2 => q = (rhl la rh wr 0 (-1) (-2)) ∧ w2 = [(pl, .inr (2, [.ref pf, .ref pa, .ref po, .ref pr, .ref ps, .ref pd, .ref ph, .ref pq, .int (nI wo), .int (nI wr), .int sc])), (pf, .inl (cI, 24, .inl fi)), (pa, .inl (cI, 24, .inl la)), (po, .inl (cZ, 24, .inl ov)), (pr, .inl (cI, 24, .inl rg)), (ps, .inl (cI, 24, .inl sl)), (pd, .inl (cI, 24, .inl od)), (ph, .inl (cI, 8, .inl rh)), (pq, .inl (cI, 24, .inl sh))]) (sm_B (dC, dI) smC [(cI, .int), (cZ, .boolean)] A) A) ([.ref pl] : List Value).toArray s 0 0 A) (F0 m 7 ls []) := by
    intro N_7
    induction N_7 with
    | zero => intro q p2 f1 g1 _ _ z; exact absurd z (Nat.not_lt_zero _)
    | succ N_7 ih_7 =>
      intro q p2 f1 g1 hqp hv m_7 H locs hP hD hS ls hl
      refine lv_iload_n hx hb d_Plc_registerHeldLongest_7 rfl (lv_at hl 3 rfl) ?_
      refine lv_aload_n hx hb d_Plc_registerHeldLongest_8 rfl (lv_at hl 0 rfl) ?_
      refine va_get (D := (dC, dI)) (ci := 2) (v := .int (nI wr)) (C := R_Plc) (T := T_Plc) (N := 11) hx hb ht i_Plc hown hK hP 0 rfl rfl 9 (by decide) (ht _ mw_74) (fun _ h9 => h9) rfl d_Plc_registerHeldLongest_9 ?_
      refine lv_icmp_ge (tgt := 44) hx hb d_Plc_registerHeldLongest_12 (by decide) (fun c_12 => ?_) (fun c_12 => ?_)
      · skip
        have f_12 : wr ≤ p2 := (nI_leI (a := wr) (b := p2) (by first | omega | decide) (by first | omega | decide)).mp c_12
        obtain rfl : q = 0 := by omega
        refine lv_iload_n hx hb d_Plc_registerHeldLongest_44 rfl (lv_at hl 1 rfl) ?_
        refine sm_ri (v := f1) (ws := [(pl, .inr (2, [.ref pf, .ref pa, .ref po, .ref pr, .ref ps, .ref pd, .ref ph, .ref pq, .int (nI wo), .int (nI wr), .int sc])), (pf, .inl (cI, 24, .inl fi)), (pa, .inl (cI, 24, .inl la)), (po, .inl (cZ, 24, .inl ov)), (pr, .inl (cI, 24, .inl rg)), (ps, .inl (cI, 24, .inl sl)), (pd, .inl (cI, 24, .inl od)), (ph, .inl (cI, 8, .inl rh)), (pq, .inl (cI, 24, .inl sh))]) hx hb hr hlocks hK (hP.sub [0, 1, 2, 3, 4, 5, 6, 7, 8] rfl) (hD.sub [0, 1, 2, 3, 4, 5, 6, 7, 8] (by decide) rfl) hS ?_ d_Plc_registerHeldLongest_45
        exact ⟨by rw [← hv]; rfl, rfl⟩
      · skip
        have f_12 : ¬ wr ≤ p2 := fun z => c_12 ((nI_leI (a := wr) (b := p2) (by first | omega | decide) (by first | omega | decide)).mpr z)
        obtain ⟨q1, rfl⟩ : ∃ z, q = z + 1 := ⟨q - 1, by omega⟩
        refine lv_aload_n hx hb d_Plc_registerHeldLongest_15 rfl (lv_at hl 0 rfl) ?_
        refine lv_aload_n hx hb d_Plc_registerHeldLongest_16 rfl (lv_at hl 0 rfl) ?_
        refine va_get (D := (dC, dI)) (ci := 2) (v := .ref ph) (C := R_Plc) (T := T_Plc) (N := 11) hx hb ht i_Plc hown hK hP 0 rfl rfl 6 (by decide) (ht _ mw_71) (fun _ h9 => h9) rfl d_Plc_registerHeldLongest_17 ?_
        refine lv_iload_n hx hb d_Plc_registerHeldLongest_20 rfl (lv_at hl 3 rfl) ?_
        refine sm_iald (j := p2) hx hb hK hP 7 0 rfl rfl (vp_in_nI (by first | omega | assumption) (by first | decide | omega)) (nI_clamp (by first | omega | (have := sm_lt31; omega))) d_Plc_registerHeldLongest_21 ?_
        refine sm_goi (wc := [(pl, .inr (2, [.ref pf, .ref pa, .ref po, .ref pr, .ref ps, .ref pd, .ref ph, .ref pq, .int (nI wo), .int (nI wr), .int sc])), (pf, .inl (cI, 24, .inl fi)), (pa, .inl (cI, 24, .inl la)), (po, .inl (cZ, 24, .inl ov)), (pr, .inl (cI, 24, .inl rg)), (ps, .inl (cI, 24, .inl sl)), (pd, .inl (cI, 24, .inl od)), (ph, .inl (cI, 8, .inl rh)), (pq, .inl (cI, 24, .inl sh))]) (wr := []) (va_runV (As := [.int (rh p2)]) (rest := []) ⟨hx, hb, hml, hown, ht⟩ ((c_Plc_lastOf (l := l) (dC := dC) (dI := dI) (cI := cI) (cZ := cZ) (pl := pl) (pf := pf) (pa := pa) (po := po) (pr := pr) (ps := ps) (pd := pd) (ph := ph) (pq := pq) (wo := wo) (wr := wr) (fi := fi) (la := la) (ov := ov) (rg := rg) (sl := sl) (od := od) (rh := rh) (sh := sh) (sc := sc) (v := rh p2) ).at H.size) (sm_cV 1 ht mw_311 mw_4 mw_308 mw_309 mw_310 rfl rfl (by decide +kernel) ⟨Nat.le_of_ble_eq_true rfl, Nat.le_of_ble_eq_true rfl⟩) (sm_preV (ci := 2) hN hK hP hD [0, 1, 2, 3, 4, 5, 6, 7, 8] rfl rfl (by decide) 0 rfl rfl) rfl rfl hl.1 rfl (lv_room (Nat.le_of_ble_eq_true rfl)) d_Plc_registerHeldLongest_22 ⟨Nat.zero_le _, Nat.zero_le _⟩) hP hD hS hA [0, 1, 2, 3, 4, 5, 6, 7, 8] [] rfl rfl (by decide) (by decide) (fun r_22 w_22 H locs q_22 hP hD hS => ?_)
        obtain ⟨rfl, rfl⟩ := q_22
        have hP : va_P (dC, dI) smC [(pl, .inr (2, [.ref pf, .ref pa, .ref po, .ref pr, .ref ps, .ref pd, .ref ph, .ref pq, .int (nI wo), .int (nI wr), .int sc])), (pf, .inl (cI, 24, .inl fi)), (pa, .inl (cI, 24, .inl la)), (po, .inl (cZ, 24, .inl ov)), (pr, .inl (cI, 24, .inl rg)), (ps, .inl (cI, 24, .inl sl)), (pd, .inl (cI, 24, .inl od)), (ph, .inl (cI, 8, .inl rh)), (pq, .inl (cI, 24, .inl sh))] H := hP
        have hD : va_D A [(pl, .inr (2, [.ref pf, .ref pa, .ref po, .ref pr, .ref ps, .ref pd, .ref ph, .ref pq, .int (nI wo), .int (nI wr), .int sc])), (pf, .inl (cI, 24, .inl fi)), (pa, .inl (cI, 24, .inl la)), (po, .inl (cZ, 24, .inl ov)), (pr, .inl (cI, 24, .inl rg)), (ps, .inl (cI, 24, .inl sl)), (pd, .inl (cI, 24, .inl od)), (ph, .inl (cI, 8, .inl rh)), (pq, .inl (cI, 24, .inl sh))] := hD
        refine lv_istore (lv' := [(4, .int (fO la (rh p2))), (0, .ref pl), (1, .int f1), (2, .int g1), (3, .int (nI p2))]) hx hb d_Plc_registerHeldLongest_25 hl (by decide) rfl (fun ls hl => ?_)
        refine lv_iload hx hb d_Plc_registerHeldLongest_27 (lv_at hl 0 rfl) ?_
        refine lv_iload_n hx hb d_Plc_registerHeldLongest_29 rfl (lv_at hl 3 rfl) ?_
        refine lv_icmp_lt (tgt := 38) hx hb d_Plc_registerHeldLongest_30 (by decide) (fun c_30 => ?_) (fun c_30 => ?_)
        · skip
          refine lv_iinc (v := nI (p2 + 1)) (lv' := [(3, .int (nI (p2 + 1))), (4, .int (fO la (rh p2))), (0, .ref pl), (1, .int f1), (2, .int g1)]) hx hb d_Plc_registerHeldLongest_38 hl (k := 4) rfl (nI_add p2 1) (by decide) rfl (fun ls hl => ?_)
          refine lv_goto (tgt := 7) hx hb d_Plc_registerHeldLongest_41 (by decide) ?_
          exact ih_7 q1 (p2 + 1) f1 g1 (by omega) (by rw [← hv, rhl]; simp only [if_pos c_30]) (by omega) _ _ (hP.sub [0, 1, 2, 3, 4, 5, 6, 7, 8] rfl) (hD.sub [0, 1, 2, 3, 4, 5, 6, 7, 8] (by decide) rfl) hS _ (lv_sub hl [2, 3, 4, 0] rfl)
        · skip
          refine lv_iload hx hb d_Plc_registerHeldLongest_33 (lv_at hl 0 rfl) ?_
          refine lv_istore_n (lv' := [(2, .int (fO la (rh p2))), (4, .int (fO la (rh p2))), (0, .ref pl), (1, .int f1), (3, .int (nI p2))]) hx hb d_Plc_registerHeldLongest_35 rfl hl (by decide) rfl (fun ls hl => ?_)
          refine lv_iload_n hx hb d_Plc_registerHeldLongest_36 rfl (lv_at hl 4 rfl) ?_
          refine lv_istore_n (lv' := [(1, .int (nI p2)), (2, .int (fO la (rh p2))), (4, .int (fO la (rh p2))), (0, .ref pl), (3, .int (nI p2))]) hx hb d_Plc_registerHeldLongest_37 rfl hl (by decide) rfl (fun ls hl => ?_)
          refine lv_iinc (v := nI (p2 + 1)) (lv' := [(3, .int (nI (p2 + 1))), (1, .int (nI p2)), (2, .int (fO la (rh p2))), (4, .int (fO la (rh p2))), (0, .ref pl)]) hx hb d_Plc_registerHeldLongest_38 hl (k := 4) rfl (nI_add p2 1) (by decide) rfl (fun ls hl => ?_)
          refine lv_goto (tgt := 7) hx hb d_Plc_registerHeldLongest_41 (by decide) ?_
          exact ih_7 q1 (p2 + 1) (nI p2) (fO la (rh p2)) (by omega) (by rw [← hv, rhl]; simp only [if_neg c_30]) (by omega) _ _ (hP.sub [0, 1, 2, 3, 4, 5, 6, 7, 8] rfl) (hD.sub [0, 1, 2, 3, 4, 5, 6, 7, 8] (by decide) rfl) hS _ (lv_sub hl [4, 1, 2, 0] rfl)
  exact loop_7 (wr + 1) wr 0 ((-1 : Int32)) ((-2 : Int32)) (by omega) rfl (by omega) _ _ (hP.sub [0, 1, 2, 3, 4, 5, 6, 7, 8] rfl) (hD.sub [0, 1, 2, 3, 4, 5, 6, 7, 8] (by decide) rfl) hS _ (lv_sub hl [3, 2, 1, 0] rfl)
abbrev y_Plc_giveRegister : MethodName := ⟨"ScanMill$Places", "giveRegister", "(I)V"⟩
theorem d_Plc_giveRegister_0 : decode prog_4_method_19_code 0 = .ok (.aload_n 0, 1) := by decide +kernel
theorem d_Plc_giveRegister_1 : decode prog_4_method_19_code 1 = .ok (.aload_n 0, 1) := by decide +kernel
theorem d_Plc_giveRegister_2 : decode prog_4_method_19_code 2 = .ok (.getfield 31, 3) := by decide +kernel
theorem d_Plc_giveRegister_5 : decode prog_4_method_19_code 5 = .ok (.aload_n 0, 1) := by decide +kernel
theorem d_Plc_giveRegister_6 : decode prog_4_method_19_code 6 = .ok (.getfield 41, 3) := by decide +kernel
theorem d_Plc_giveRegister_9 : decode prog_4_method_19_code 9 = .ok (.iload_n 1, 1) := by decide +kernel
theorem d_Plc_giveRegister_10 : decode prog_4_method_19_code 10 = .ok (.invokevirtual 122, 3) := by decide +kernel
theorem mw_307 : Cond.code ⟨"ScanMill$Places", "leastFree", "([III)I"⟩ prog_4_method_24_code 5 (Option.some FieldType.int) ∈ wG := wG_t 307 (by decide +kernel) (by decide +kernel)
theorem mw_304 : Cond.methodLink "ScanMill$Places" 122 ⟨"ScanMill$Places", "leastFree", "([III)I"⟩ ∈ wG := wG_t 304 (by decide +kernel) (by decide +kernel)
theorem mw_306 : Cond.instanceMethod ⟨"ScanMill$Places", "leastFree", "([III)I"⟩ ∈ wG := wG_t 306 (by decide +kernel) (by decide +kernel)
theorem mp_12 : Cond.selects "ScanMill$Places" ⟨"ScanMill$Places", "leastFree", "([III)I"⟩ ⟨"ScanMill$Places", "leastFree", "([III)I"⟩ ∈ wG := wG_p 12 (by decide +kernel) (by decide +kernel)
theorem d_Plc_giveRegister_13 : decode prog_4_method_19_code 13 = .ok (.istore_n 2, 1) := by decide +kernel
theorem d_Plc_giveRegister_14 : decode prog_4_method_19_code 14 = .ok (.iload_n 2, 1) := by decide +kernel
theorem d_Plc_giveRegister_15 : decode prog_4_method_19_code 15 = .ok (.iconst (-1), 1) := by decide +kernel
theorem d_Plc_giveRegister_16 : decode prog_4_method_19_code 16 = .ok (.if_icmp .eq 10, 3) := by decide +kernel
theorem d_Plc_giveRegister_26 : decode prog_4_method_19_code 26 = .ok (.aload_n 0, 1) := by decide +kernel
theorem d_Plc_giveRegister_27 : decode prog_4_method_19_code 27 = .ok (.invokevirtual 129, 3) := by decide +kernel
theorem mw_319 : Cond.code ⟨"ScanMill$Places", "registerHeldLongest", "()I"⟩ prog_4_method_21_code 5 (Option.some FieldType.int) ∈ wG := wG_t 319 (by decide +kernel) (by decide +kernel)
theorem mw_316 : Cond.methodLink "ScanMill$Places" 129 ⟨"ScanMill$Places", "registerHeldLongest", "()I"⟩ ∈ wG := wG_t 316 (by decide +kernel) (by decide +kernel)
theorem mw_318 : Cond.instanceMethod ⟨"ScanMill$Places", "registerHeldLongest", "()I"⟩ ∈ wG := wG_t 318 (by decide +kernel) (by decide +kernel)
theorem mp_14 : Cond.selects "ScanMill$Places" ⟨"ScanMill$Places", "registerHeldLongest", "()I"⟩ ⟨"ScanMill$Places", "registerHeldLongest", "()I"⟩ ∈ wG := wG_p 14 (by decide +kernel) (by decide +kernel)
theorem d_Plc_giveRegister_30 : decode prog_4_method_19_code 30 = .ok (.istore_n 3, 1) := by decide +kernel
theorem d_Plc_giveRegister_31 : decode prog_4_method_19_code 31 = .ok (.iload_n 3, 1) := by decide +kernel
theorem d_Plc_giveRegister_32 : decode prog_4_method_19_code 32 = .ok (.iconst (-1), 1) := by decide +kernel
theorem d_Plc_giveRegister_33 : decode prog_4_method_19_code 33 = .ok (.if_icmp .ne 4, 3) := by decide +kernel
theorem d_Plc_giveRegister_37 : decode prog_4_method_19_code 37 = .ok (.aload_n 0, 1) := by decide +kernel
theorem d_Plc_giveRegister_38 : decode prog_4_method_19_code 38 = .ok (.getfield 31, 3) := by decide +kernel
theorem d_Plc_giveRegister_41 : decode prog_4_method_19_code 41 = .ok (.iload_n 3, 1) := by decide +kernel
theorem d_Plc_giveRegister_42 : decode prog_4_method_19_code 42 = .ok (.iaload, 1) := by decide +kernel
theorem d_Plc_giveRegister_43 : decode prog_4_method_19_code 43 = .ok (.istore 4, 2) := by decide +kernel
theorem d_Plc_giveRegister_45 : decode prog_4_method_19_code 45 = .ok (.iload 4, 2) := by decide +kernel
theorem d_Plc_giveRegister_47 : decode prog_4_method_19_code 47 = .ok (.invokestatic 68, 3) := by decide +kernel
theorem d_Plc_giveRegister_50 : decode prog_4_method_19_code 50 = .ok (.ifCond .eq 32, 3) := by decide +kernel
theorem d_Plc_giveRegister_82 : decode prog_4_method_19_code 82 = .ok (.return_, 1) := by decide +kernel
theorem d_Plc_giveRegister_53 : decode prog_4_method_19_code 53 = .ok (.aload_n 0, 1) := by decide +kernel
theorem d_Plc_giveRegister_54 : decode prog_4_method_19_code 54 = .ok (.getfield 15, 3) := by decide +kernel
theorem d_Plc_giveRegister_57 : decode prog_4_method_19_code 57 = .ok (.iload 4, 2) := by decide +kernel
theorem d_Plc_giveRegister_59 : decode prog_4_method_19_code 59 = .ok (.iaload, 1) := by decide +kernel
theorem d_Plc_giveRegister_60 : decode prog_4_method_19_code 60 = .ok (.aload_n 0, 1) := by decide +kernel
theorem d_Plc_giveRegister_61 : decode prog_4_method_19_code 61 = .ok (.iload_n 1, 1) := by decide +kernel
theorem d_Plc_giveRegister_62 : decode prog_4_method_19_code 62 = .ok (.invokevirtual 132, 3) := by decide +kernel
theorem d_Plc_giveRegister_65 : decode prog_4_method_19_code 65 = .ok (.if_icmp .le 17, 3) := by decide +kernel
theorem d_Plc_giveRegister_68 : decode prog_4_method_19_code 68 = .ok (.aload_n 0, 1) := by decide +kernel
theorem d_Plc_giveRegister_69 : decode prog_4_method_19_code 69 = .ok (.getfield 22, 3) := by decide +kernel
theorem d_Plc_giveRegister_72 : decode prog_4_method_19_code 72 = .ok (.iload 4, 2) := by decide +kernel
theorem d_Plc_giveRegister_74 : decode prog_4_method_19_code 74 = .ok (.iconst (-1), 1) := by decide +kernel
theorem d_Plc_giveRegister_75 : decode prog_4_method_19_code 75 = .ok (.iastore, 1) := by decide +kernel
theorem d_Plc_giveRegister_76 : decode prog_4_method_19_code 76 = .ok (.aload_n 0, 1) := by decide +kernel
theorem d_Plc_giveRegister_77 : decode prog_4_method_19_code 77 = .ok (.iload_n 1, 1) := by decide +kernel
theorem d_Plc_giveRegister_78 : decode prog_4_method_19_code 78 = .ok (.iload_n 3, 1) := by decide +kernel
theorem d_Plc_giveRegister_79 : decode prog_4_method_19_code 79 = .ok (.invokevirtual 126, 3) := by decide +kernel
theorem mw_315 : Cond.code ⟨"ScanMill$Places", "takeRegister", "(II)V"⟩ prog_4_method_20_code 3 (Option.none : Option FieldType) ∈ wG := wG_t 315 (by decide +kernel) (by decide +kernel)
theorem mw_312 : Cond.methodLink "ScanMill$Places" 126 ⟨"ScanMill$Places", "takeRegister", "(II)V"⟩ ∈ wG := wG_t 312 (by decide +kernel) (by decide +kernel)
theorem mw_314 : Cond.instanceMethod ⟨"ScanMill$Places", "takeRegister", "(II)V"⟩ ∈ wG := wG_t 314 (by decide +kernel) (by decide +kernel)
theorem mp_13 : Cond.selects "ScanMill$Places" ⟨"ScanMill$Places", "takeRegister", "(II)V"⟩ ⟨"ScanMill$Places", "takeRegister", "(II)V"⟩ ∈ wG := wG_p 13 (by decide +kernel) (by decide +kernel)
theorem d_Plc_giveRegister_36 : decode prog_4_method_19_code 36 = .ok (.return_, 1) := by decide +kernel
theorem d_Plc_giveRegister_19 : decode prog_4_method_19_code 19 = .ok (.aload_n 0, 1) := by decide +kernel
theorem d_Plc_giveRegister_20 : decode prog_4_method_19_code 20 = .ok (.iload_n 1, 1) := by decide +kernel
theorem d_Plc_giveRegister_21 : decode prog_4_method_19_code 21 = .ok (.iload_n 2, 1) := by decide +kernel
theorem d_Plc_giveRegister_22 : decode prog_4_method_19_code 22 = .ok (.invokevirtual 126, 3) := by decide +kernel
theorem d_Plc_giveRegister_25 : decode prog_4_method_19_code 25 = .ok (.return_, 1) := by decide +kernel
set_option maxRecDepth 100000 in
set_option maxHeartbeats 4000000 in
theorem c_Plc_giveRegister {l : Launch} {dC : Nat → ClassId} {dI : Nat → Nat → Nat} {cI cZ : ClassId} {pl pf pa po pr ps pd ph pq wo wr : Nat} {fi la ov rg sl od rh sh : Nat → Int32} {sc : Int32} {x : Int32} (hx1 : inB x 24 = true) (hwr : wr ≤ 8) : sm_V l y_Plc_giveRegister prog_4_method_19_code 5 none (rmF 3 65) (dC, dI) smC [(cI, .int), (cZ, .boolean)] [.ref pl, .int x] [(pl, .inr (2, [.ref pf, .ref pa, .ref po, .ref pr, .ref ps, .ref pd, .ref ph, .ref pq, .int (nI wo), .int (nI wr), .int sc])), (pf, .inl (cI, 24, .inl fi)), (pa, .inl (cI, 24, .inl la)), (po, .inl (cZ, 24, .inl ov)), (pr, .inl (cI, 24, .inl rg)), (ps, .inl (cI, 24, .inl sl)), (pd, .inl (cI, 24, .inl od)), (ph, .inl (cI, 8, .inl rh)), (pq, .inl (cI, 24, .inl sh))] (fun w2 => w2 = [(pl, .inr (2, [.ref pf, .ref pa, .ref po, .ref pr, .ref ps, .ref pd, .ref ph, .ref pq, .int (nI wo), .int (nI wr), .int sc])), (pf, .inl (cI, 24, .inl fi)), (pa, .inl (cI, 24, .inl la)), (po, .inl (cZ, 24, .inl ov)), (pr, .inl (cI, 24, .inl ((gvR fi la rg rh wr x).1))), (ps, .inl (cI, 24, .inl sl)), (pd, .inl (cI, 24, .inl od)), (ph, .inl (cI, 8, .inl ((gvR fi la rg rh wr x).2))), (pq, .inl (cI, 24, .inl sh))]) := by
  refine sm_V.mk (by decide) (Nat.le_of_ble_eq_true rfl) ?_
  intro p e s m below meth c A H locs ls hx hb hr ht hown hlocks hml hnm hP hK hD hA hS hN hl
  have hl : lv_has ls 5 [(0, .ref pl), (1, .int x)] := hl
  refine lv_aload_n hx hb d_Plc_giveRegister_0 rfl (lv_at hl 0 rfl) ?_
  refine lv_aload_n hx hb d_Plc_giveRegister_1 rfl (lv_at hl 0 rfl) ?_
  refine va_get (D := (dC, dI)) (ci := 2) (v := .ref ph) (C := R_Plc) (T := T_Plc) (N := 11) hx hb ht i_Plc hown hK hP 0 rfl rfl 6 (by decide) (ht _ mw_71) (fun _ h9 => h9) rfl d_Plc_giveRegister_2 ?_
  refine lv_aload_n hx hb d_Plc_giveRegister_5 rfl (lv_at hl 0 rfl) ?_
  refine va_get (D := (dC, dI)) (ci := 2) (v := .int (nI wr)) (C := R_Plc) (T := T_Plc) (N := 11) hx hb ht i_Plc hown hK hP 0 rfl rfl 9 (by decide) (ht _ mw_74) (fun _ h9 => h9) rfl d_Plc_giveRegister_6 ?_
  refine lv_iload_n hx hb d_Plc_giveRegister_9 rfl (lv_at hl 1 rfl) ?_
  refine sm_goi (wc := [(pl, .inr (2, [.ref pf, .ref pa, .ref po, .ref pr, .ref ps, .ref pd, .ref ph, .ref pq, .int (nI wo), .int (nI wr), .int sc])), (pf, .inl (cI, 24, .inl fi)), (pa, .inl (cI, 24, .inl la)), (po, .inl (cZ, 24, .inl ov)), (pr, .inl (cI, 24, .inl rg)), (ps, .inl (cI, 24, .inl sl)), (pd, .inl (cI, 24, .inl od)), (ph, .inl (cI, 8, .inl rh)), (pq, .inl (cI, 24, .inl sh))]) (wr := []) (va_runV (As := [.ref ph, .int (nI wr), .int x]) (rest := []) ⟨hx, hb, hml, hown, ht⟩ ((c_Plc_leastFreeR (l := l) (dC := dC) (dI := dI) (cI := cI) (cZ := cZ) (pl := pl) (pf := pf) (pa := pa) (po := po) (pr := pr) (ps := ps) (pd := pd) (ph := ph) (pq := pq) (wo := wo) (wr := wr) (fi := fi) (la := la) (ov := ov) (rg := rg) (sl := sl) (od := od) (rh := rh) (sh := sh) (sc := sc) (mm := wr) (x := x) hwr).at H.size) (sm_cV 3 ht mw_307 mw_4 mw_304 mw_306 mp_12 rfl rfl (by decide +kernel) ⟨Nat.le_of_ble_eq_true rfl, Nat.le_of_ble_eq_true rfl⟩) (sm_preV (ci := 2) hN hK hP hD [0, 1, 2, 3, 4, 5, 6, 7, 8] rfl rfl (by decide) 0 rfl rfl) rfl rfl hl.1 rfl (lv_room (Nat.le_of_ble_eq_true rfl)) d_Plc_giveRegister_10 ⟨Nat.zero_le _, Nat.zero_le _⟩) hP hD hS hA [0, 1, 2, 3, 4, 5, 6, 7, 8] [] rfl rfl (by decide) (by decide) (fun r_10 w_10 H locs q_10 hP hD hS => ?_)
  obtain ⟨rfl, rfl⟩ := q_10
  have hP : va_P (dC, dI) smC [(pl, .inr (2, [.ref pf, .ref pa, .ref po, .ref pr, .ref ps, .ref pd, .ref ph, .ref pq, .int (nI wo), .int (nI wr), .int sc])), (pf, .inl (cI, 24, .inl fi)), (pa, .inl (cI, 24, .inl la)), (po, .inl (cZ, 24, .inl ov)), (pr, .inl (cI, 24, .inl rg)), (ps, .inl (cI, 24, .inl sl)), (pd, .inl (cI, 24, .inl od)), (ph, .inl (cI, 8, .inl rh)), (pq, .inl (cI, 24, .inl sh))] H := hP
  have hD : va_D A [(pl, .inr (2, [.ref pf, .ref pa, .ref po, .ref pr, .ref ps, .ref pd, .ref ph, .ref pq, .int (nI wo), .int (nI wr), .int sc])), (pf, .inl (cI, 24, .inl fi)), (pa, .inl (cI, 24, .inl la)), (po, .inl (cZ, 24, .inl ov)), (pr, .inl (cI, 24, .inl rg)), (ps, .inl (cI, 24, .inl sl)), (pd, .inl (cI, 24, .inl od)), (ph, .inl (cI, 8, .inl rh)), (pq, .inl (cI, 24, .inl sh))] := hD
  refine lv_istore_n (lv' := [(2, .int (lF fi la rh x wr 0)), (0, .ref pl), (1, .int x)]) hx hb d_Plc_giveRegister_13 rfl hl (by decide) rfl (fun ls hl => ?_)
  refine lv_iload_n hx hb d_Plc_giveRegister_14 rfl (lv_at hl 0 rfl) ?_
  refine lv_iconst (v := -1) hx hb d_Plc_giveRegister_15 (by decide) ?_
  refine lv_icmp_eq (tgt := 26) hx hb d_Plc_giveRegister_16 (by decide) (fun c_16 => ?_) (fun c_16 => ?_)
  · skip
    refine lv_aload_n hx hb d_Plc_giveRegister_26 rfl (lv_at hl 1 rfl) ?_
    refine sm_goi (wc := [(pl, .inr (2, [.ref pf, .ref pa, .ref po, .ref pr, .ref ps, .ref pd, .ref ph, .ref pq, .int (nI wo), .int (nI wr), .int sc])), (pf, .inl (cI, 24, .inl fi)), (pa, .inl (cI, 24, .inl la)), (po, .inl (cZ, 24, .inl ov)), (pr, .inl (cI, 24, .inl rg)), (ps, .inl (cI, 24, .inl sl)), (pd, .inl (cI, 24, .inl od)), (ph, .inl (cI, 8, .inl rh)), (pq, .inl (cI, 24, .inl sh))]) (wr := []) (va_runV (As := []) (rest := []) ⟨hx, hb, hml, hown, ht⟩ ((c_Plc_registerHeldLongest (l := l) (dC := dC) (dI := dI) (cI := cI) (cZ := cZ) (pl := pl) (pf := pf) (pa := pa) (po := po) (pr := pr) (ps := ps) (pd := pd) (ph := ph) (pq := pq) (wo := wo) (wr := wr) (fi := fi) (la := la) (ov := ov) (rg := rg) (sl := sl) (od := od) (rh := rh) (sh := sh) (sc := sc) hwr).at H.size) (sm_cV 0 ht mw_319 mw_4 mw_316 mw_318 mp_14 rfl rfl (by decide +kernel) ⟨Nat.le_of_ble_eq_true rfl, Nat.le_of_ble_eq_true rfl⟩) (sm_preV (ci := 2) hN hK hP hD [0, 1, 2, 3, 4, 5, 6, 7, 8] rfl rfl (by decide) 0 rfl rfl) rfl rfl hl.1 rfl (lv_room (Nat.le_of_ble_eq_true rfl)) d_Plc_giveRegister_27 ⟨Nat.zero_le _, Nat.zero_le _⟩) hP hD hS hA [0, 1, 2, 3, 4, 5, 6, 7, 8] [] rfl rfl (by decide) (by decide) (fun r_27 w_27 H locs q_27 hP hD hS => ?_)
    obtain ⟨rfl, rfl⟩ := q_27
    have hP : va_P (dC, dI) smC [(pl, .inr (2, [.ref pf, .ref pa, .ref po, .ref pr, .ref ps, .ref pd, .ref ph, .ref pq, .int (nI wo), .int (nI wr), .int sc])), (pf, .inl (cI, 24, .inl fi)), (pa, .inl (cI, 24, .inl la)), (po, .inl (cZ, 24, .inl ov)), (pr, .inl (cI, 24, .inl rg)), (ps, .inl (cI, 24, .inl sl)), (pd, .inl (cI, 24, .inl od)), (ph, .inl (cI, 8, .inl rh)), (pq, .inl (cI, 24, .inl sh))] H := hP
    have hD : va_D A [(pl, .inr (2, [.ref pf, .ref pa, .ref po, .ref pr, .ref ps, .ref pd, .ref ph, .ref pq, .int (nI wo), .int (nI wr), .int sc])), (pf, .inl (cI, 24, .inl fi)), (pa, .inl (cI, 24, .inl la)), (po, .inl (cZ, 24, .inl ov)), (pr, .inl (cI, 24, .inl rg)), (ps, .inl (cI, 24, .inl sl)), (pd, .inl (cI, 24, .inl od)), (ph, .inl (cI, 8, .inl rh)), (pq, .inl (cI, 24, .inl sh))] := hD
    refine lv_istore_n (lv' := [(3, .int (rhl la rh wr 0 (-1) (-2))), (2, .int (lF fi la rh x wr 0)), (0, .ref pl), (1, .int x)]) hx hb d_Plc_giveRegister_30 rfl hl (by decide) rfl (fun ls hl => ?_)
    refine lv_iload_n hx hb d_Plc_giveRegister_31 rfl (lv_at hl 0 rfl) ?_
    refine lv_iconst (v := -1) hx hb d_Plc_giveRegister_32 (by decide) ?_
    refine lv_icmp_ne (tgt := 37) hx hb d_Plc_giveRegister_33 (by decide) (fun c_33 => ?_) (fun c_33 => ?_)
    · skip
      refine lv_aload_n hx hb d_Plc_giveRegister_37 rfl (lv_at hl 2 rfl) ?_
      refine va_get (D := (dC, dI)) (ci := 2) (v := .ref ph) (C := R_Plc) (T := T_Plc) (N := 11) hx hb ht i_Plc hown hK hP 0 rfl rfl 6 (by decide) (ht _ mw_71) (fun _ h9 => h9) rfl d_Plc_giveRegister_38 ?_
      refine lv_iload_n hx hb d_Plc_giveRegister_41 rfl (lv_at hl 0 rfl) ?_
      refine sm_iald (j := (rhl la rh wr 0 (-1) (-2)).toNatClampNeg) hx hb hK hP 7 0 rfl rfl (sm_inB (rhl_inB hwr c_33)) rfl d_Plc_giveRegister_42 ?_
      refine lv_istore (lv' := [(4, .int (rh ((rhl la rh wr 0 (-1) (-2)).toNatClampNeg))), (3, .int (rhl la rh wr 0 (-1) (-2))), (2, .int (lF fi la rh x wr 0)), (0, .ref pl), (1, .int x)]) hx hb d_Plc_giveRegister_43 hl (by decide) rfl (fun ls hl => ?_)
      refine lv_iload hx hb d_Plc_giveRegister_45 (lv_at hl 0 rfl) ?_
      refine sm_goi (wc := []) (wr := [(pl, .inr (2, [.ref pf, .ref pa, .ref po, .ref pr, .ref ps, .ref pd, .ref ph, .ref pq, .int (nI wo), .int (nI wr), .int sc])), (pf, .inl (cI, 24, .inl fi)), (pa, .inl (cI, 24, .inl la)), (po, .inl (cZ, 24, .inl ov)), (pr, .inl (cI, 24, .inl rg)), (ps, .inl (cI, 24, .inl sl)), (pd, .inl (cI, 24, .inl od)), (ph, .inl (cI, 8, .inl rh)), (pq, .inl (cI, 24, .inl sh))]) (va_runSN (As := [.int (rh ((rhl la rh wr 0 (-1) (-2)).toNatClampNeg))]) (rest := []) ⟨hx, hb, hml, hown, ht⟩ ((c_Mill_isValue (l := l) (dC := dC) (dI := dI) (cI := cI) (cZ := cZ) (v := rh ((rhl la rh wr 0 (-1) (-2)).toNatClampNeg)) ).at H.size) (sm_cN 1 ht mw_163 mw_1 hN.2.2.2 mw_162 rfl rfl (by decide +kernel) ⟨Nat.le_of_ble_eq_true rfl, Nat.le_of_ble_eq_true rfl⟩) (sm_preS hN hK hP hD [] rfl rfl (by decide)) rfl rfl hl.1 rfl (lv_room (Nat.le_of_ble_eq_true rfl)) d_Plc_giveRegister_47 ⟨Nat.zero_le _, Nat.zero_le _⟩) hP hD hS hA [] [0, 1, 2, 3, 4, 5, 6, 7, 8] rfl rfl (by decide) (by decide) (fun r_47 w_47 H locs q_47 hP hD hS => ?_)
      obtain ⟨rfl, rfl⟩ := q_47
      have hP : va_P (dC, dI) smC [(pl, .inr (2, [.ref pf, .ref pa, .ref po, .ref pr, .ref ps, .ref pd, .ref ph, .ref pq, .int (nI wo), .int (nI wr), .int sc])), (pf, .inl (cI, 24, .inl fi)), (pa, .inl (cI, 24, .inl la)), (po, .inl (cZ, 24, .inl ov)), (pr, .inl (cI, 24, .inl rg)), (ps, .inl (cI, 24, .inl sl)), (pd, .inl (cI, 24, .inl od)), (ph, .inl (cI, 8, .inl rh)), (pq, .inl (cI, 24, .inl sh))] H := hP
      have hD : va_D A [(pl, .inr (2, [.ref pf, .ref pa, .ref po, .ref pr, .ref ps, .ref pd, .ref ph, .ref pq, .int (nI wo), .int (nI wr), .int sc])), (pf, .inl (cI, 24, .inl fi)), (pa, .inl (cI, 24, .inl la)), (po, .inl (cZ, 24, .inl ov)), (pr, .inl (cI, 24, .inl rg)), (ps, .inl (cI, 24, .inl sl)), (pd, .inl (cI, 24, .inl od)), (ph, .inl (cI, 8, .inl rh)), (pq, .inl (cI, 24, .inl sh))] := hD
      refine lv_if_eq (tgt := 82) hx hb d_Plc_giveRegister_50 (by decide) (fun c_50 => ?_) (fun c_50 => ?_)
      · skip
        have e_50 : (inB (rh ((rhl la rh wr 0 (-1) (-2)).toNatClampNeg)) 24) = false := b2i_eq0 c_50
        refine sm_rv (ws := [(pl, .inr (2, [.ref pf, .ref pa, .ref po, .ref pr, .ref ps, .ref pd, .ref ph, .ref pq, .int (nI wo), .int (nI wr), .int sc])), (pf, .inl (cI, 24, .inl fi)), (pa, .inl (cI, 24, .inl la)), (po, .inl (cZ, 24, .inl ov)), (pr, .inl (cI, 24, .inl rg)), (ps, .inl (cI, 24, .inl sl)), (pd, .inl (cI, 24, .inl od)), (ph, .inl (cI, 8, .inl rh)), (pq, .inl (cI, 24, .inl sh))]) hx hb hr hlocks hK (hP.sub [0, 1, 2, 3, 4, 5, 6, 7, 8] rfl) (hD.sub [0, 1, 2, 3, 4, 5, 6, 7, 8] (by decide) rfl) hS ?_ d_Plc_giveRegister_82
        show _ = _
        simp only [gvR, if_pos c_16, if_neg c_33, e_50, reduceCtorEq, eq_self, if_true, if_false]
      · skip
        have e_50 : (inB (rh ((rhl la rh wr 0 (-1) (-2)).toNatClampNeg)) 24) = true := b2i_ne0 c_50
        refine lv_aload_n hx hb d_Plc_giveRegister_53 rfl (lv_at hl 3 rfl) ?_
        refine va_get (D := (dC, dI)) (ci := 2) (v := .ref pa) (C := R_Plc) (T := T_Plc) (N := 11) hx hb ht i_Plc hown hK hP 0 rfl rfl 1 (by decide) (ht _ mw_66) (fun _ h9 => h9) rfl d_Plc_giveRegister_54 ?_
        refine lv_iload hx hb d_Plc_giveRegister_57 (lv_at hl 0 rfl) ?_
        refine sm_iald (j := (rh ((rhl la rh wr 0 (-1) (-2)).toNatClampNeg)).toNatClampNeg) hx hb hK hP 2 0 rfl rfl (sm_inB e_50) rfl d_Plc_giveRegister_59 ?_
        refine lv_aload_n hx hb d_Plc_giveRegister_60 rfl (lv_at hl 3 rfl) ?_
        refine lv_iload_n hx hb d_Plc_giveRegister_61 rfl (lv_at hl 4 rfl) ?_
        refine sm_goi (wc := [(pl, .inr (2, [.ref pf, .ref pa, .ref po, .ref pr, .ref ps, .ref pd, .ref ph, .ref pq, .int (nI wo), .int (nI wr), .int sc])), (pf, .inl (cI, 24, .inl fi)), (pa, .inl (cI, 24, .inl la)), (po, .inl (cZ, 24, .inl ov)), (pr, .inl (cI, 24, .inl rg)), (ps, .inl (cI, 24, .inl sl)), (pd, .inl (cI, 24, .inl od)), (ph, .inl (cI, 8, .inl rh)), (pq, .inl (cI, 24, .inl sh))]) (wr := []) (va_runV (As := [.int x]) (rest := [.int (la ((rh ((rhl la rh wr 0 (-1) (-2)).toNatClampNeg)).toNatClampNeg))]) ⟨hx, hb, hml, hown, ht⟩ ((c_Plc_lastOf (l := l) (dC := dC) (dI := dI) (cI := cI) (cZ := cZ) (pl := pl) (pf := pf) (pa := pa) (po := po) (pr := pr) (ps := ps) (pd := pd) (ph := ph) (pq := pq) (wo := wo) (wr := wr) (fi := fi) (la := la) (ov := ov) (rg := rg) (sl := sl) (od := od) (rh := rh) (sh := sh) (sc := sc) (v := x) ).at H.size) (sm_cV 1 ht mw_311 mw_4 mw_308 mw_309 mw_310 rfl rfl (by decide +kernel) ⟨Nat.le_of_ble_eq_true rfl, Nat.le_of_ble_eq_true rfl⟩) (sm_preV (ci := 2) hN hK hP hD [0, 1, 2, 3, 4, 5, 6, 7, 8] rfl rfl (by decide) 0 rfl rfl) rfl rfl hl.1 rfl (lv_room (Nat.le_of_ble_eq_true rfl)) d_Plc_giveRegister_62 ⟨Nat.zero_le _, Nat.zero_le _⟩) hP hD hS hA [0, 1, 2, 3, 4, 5, 6, 7, 8] [] rfl rfl (by decide) (by decide) (fun r_62 w_62 H locs q_62 hP hD hS => ?_)
        obtain ⟨rfl, rfl⟩ := q_62
        have hP : va_P (dC, dI) smC [(pl, .inr (2, [.ref pf, .ref pa, .ref po, .ref pr, .ref ps, .ref pd, .ref ph, .ref pq, .int (nI wo), .int (nI wr), .int sc])), (pf, .inl (cI, 24, .inl fi)), (pa, .inl (cI, 24, .inl la)), (po, .inl (cZ, 24, .inl ov)), (pr, .inl (cI, 24, .inl rg)), (ps, .inl (cI, 24, .inl sl)), (pd, .inl (cI, 24, .inl od)), (ph, .inl (cI, 8, .inl rh)), (pq, .inl (cI, 24, .inl sh))] H := hP
        have hD : va_D A [(pl, .inr (2, [.ref pf, .ref pa, .ref po, .ref pr, .ref ps, .ref pd, .ref ph, .ref pq, .int (nI wo), .int (nI wr), .int sc])), (pf, .inl (cI, 24, .inl fi)), (pa, .inl (cI, 24, .inl la)), (po, .inl (cZ, 24, .inl ov)), (pr, .inl (cI, 24, .inl rg)), (ps, .inl (cI, 24, .inl sl)), (pd, .inl (cI, 24, .inl od)), (ph, .inl (cI, 8, .inl rh)), (pq, .inl (cI, 24, .inl sh))] := hD
        refine lv_icmp_le (tgt := 82) hx hb d_Plc_giveRegister_65 (by decide) (fun c_65 => ?_) (fun c_65 => ?_)
        · skip
          refine sm_rv (ws := [(pl, .inr (2, [.ref pf, .ref pa, .ref po, .ref pr, .ref ps, .ref pd, .ref ph, .ref pq, .int (nI wo), .int (nI wr), .int sc])), (pf, .inl (cI, 24, .inl fi)), (pa, .inl (cI, 24, .inl la)), (po, .inl (cZ, 24, .inl ov)), (pr, .inl (cI, 24, .inl rg)), (ps, .inl (cI, 24, .inl sl)), (pd, .inl (cI, 24, .inl od)), (ph, .inl (cI, 8, .inl rh)), (pq, .inl (cI, 24, .inl sh))]) hx hb hr hlocks hK (hP.sub [0, 1, 2, 3, 4, 5, 6, 7, 8] rfl) (hD.sub [0, 1, 2, 3, 4, 5, 6, 7, 8] (by decide) rfl) hS ?_ d_Plc_giveRegister_82
          show _ = _
          simp only [gvR, if_pos c_16, if_neg c_33, if_pos c_65, e_50, reduceCtorEq, eq_self, if_true, if_false]
        · skip
          refine lv_aload_n hx hb d_Plc_giveRegister_68 rfl (lv_at hl 3 rfl) ?_
          refine va_get (D := (dC, dI)) (ci := 2) (v := .ref pr) (C := R_Plc) (T := T_Plc) (N := 11) hx hb ht i_Plc hown hK hP 0 rfl rfl 3 (by decide) (ht _ mw_68) (fun _ h9 => h9) rfl d_Plc_giveRegister_69 ?_
          refine lv_iload hx hb d_Plc_giveRegister_72 (lv_at hl 0 rfl) ?_
          refine lv_iconst (v := -1) hx hb d_Plc_giveRegister_74 (by decide) ?_
          refine sm_iast (j := (rh ((rhl la rh wr 0 (-1) (-2)).toNatClampNeg)).toNatClampNeg) hx hb hK hP hD hS 4 0 rfl rfl (sm_inB e_50) rfl d_Plc_giveRegister_75 (fun H locs hP hD hS => ?_)
          have hP : va_P (dC, dI) smC [(pl, .inr (2, [.ref pf, .ref pa, .ref po, .ref pr, .ref ps, .ref pd, .ref ph, .ref pq, .int (nI wo), .int (nI wr), .int sc])), (pf, .inl (cI, 24, .inl fi)), (pa, .inl (cI, 24, .inl la)), (po, .inl (cZ, 24, .inl ov)), (pr, .inl (cI, 24, .inl (upd rg ((rh ((rhl la rh wr 0 (-1) (-2)).toNatClampNeg)).toNatClampNeg) ((-1 : Int32))))), (ps, .inl (cI, 24, .inl sl)), (pd, .inl (cI, 24, .inl od)), (ph, .inl (cI, 8, .inl rh)), (pq, .inl (cI, 24, .inl sh))] H := hP
          have hD : va_D A [(pl, .inr (2, [.ref pf, .ref pa, .ref po, .ref pr, .ref ps, .ref pd, .ref ph, .ref pq, .int (nI wo), .int (nI wr), .int sc])), (pf, .inl (cI, 24, .inl fi)), (pa, .inl (cI, 24, .inl la)), (po, .inl (cZ, 24, .inl ov)), (pr, .inl (cI, 24, .inl (upd rg ((rh ((rhl la rh wr 0 (-1) (-2)).toNatClampNeg)).toNatClampNeg) ((-1 : Int32))))), (ps, .inl (cI, 24, .inl sl)), (pd, .inl (cI, 24, .inl od)), (ph, .inl (cI, 8, .inl rh)), (pq, .inl (cI, 24, .inl sh))] := hD
          refine lv_aload_n hx hb d_Plc_giveRegister_76 rfl (lv_at hl 3 rfl) ?_
          refine lv_iload_n hx hb d_Plc_giveRegister_77 rfl (lv_at hl 4 rfl) ?_
          refine lv_iload_n hx hb d_Plc_giveRegister_78 rfl (lv_at hl 1 rfl) ?_
          refine sm_gov (wc := [(pl, .inr (2, [.ref pf, .ref pa, .ref po, .ref pr, .ref ps, .ref pd, .ref ph, .ref pq, .int (nI wo), .int (nI wr), .int sc])), (pf, .inl (cI, 24, .inl fi)), (pa, .inl (cI, 24, .inl la)), (po, .inl (cZ, 24, .inl ov)), (pr, .inl (cI, 24, .inl (upd rg ((rh ((rhl la rh wr 0 (-1) (-2)).toNatClampNeg)).toNatClampNeg) ((-1 : Int32))))), (ps, .inl (cI, 24, .inl sl)), (pd, .inl (cI, 24, .inl od)), (ph, .inl (cI, 8, .inl rh)), (pq, .inl (cI, 24, .inl sh))]) (wr := []) (va_runV (As := [.int x, .int (rhl la rh wr 0 (-1) (-2))]) (rest := []) ⟨hx, hb, hml, hown, ht⟩ ((c_Plc_takeRegister (l := l) (dC := dC) (dI := dI) (cI := cI) (cZ := cZ) (pl := pl) (pf := pf) (pa := pa) (po := po) (pr := pr) (ps := ps) (pd := pd) (ph := ph) (pq := pq) (wo := wo) (wr := wr) (fi := fi) (la := la) (ov := ov) (rg := upd rg ((rh ((rhl la rh wr 0 (-1) (-2)).toNatClampNeg)).toNatClampNeg) ((-1 : Int32))) (sl := sl) (od := od) (rh := rh) (sh := sh) (sc := sc) (x := x) (gg := rhl la rh wr 0 (-1) (-2)) hx1 (rhl_inB hwr c_33)).at H.size) (sm_cV 2 ht mw_315 mw_4 mw_312 mw_314 mp_13 rfl rfl (by decide +kernel) ⟨Nat.le_of_ble_eq_true rfl, Nat.le_of_ble_eq_true rfl⟩) (sm_preV (ci := 2) hN hK hP hD [0, 1, 2, 3, 4, 5, 6, 7, 8] rfl rfl (by decide) 0 rfl rfl) rfl rfl hl.1 rfl (lv_room (Nat.le_of_ble_eq_true rfl)) d_Plc_giveRegister_79 ⟨Nat.zero_le _, Nat.zero_le _⟩) hP hD hS hA [0, 1, 2, 3, 4, 5, 6, 7, 8] [] rfl rfl (by decide) (by decide) (fun w_79 H locs q_79 hP hD hS => ?_)
          obtain rfl := q_79
          have hP : va_P (dC, dI) smC [(pl, .inr (2, [.ref pf, .ref pa, .ref po, .ref pr, .ref ps, .ref pd, .ref ph, .ref pq, .int (nI wo), .int (nI wr), .int sc])), (pf, .inl (cI, 24, .inl fi)), (pa, .inl (cI, 24, .inl la)), (po, .inl (cZ, 24, .inl ov)), (pr, .inl (cI, 24, .inl (upd (upd rg ((rh ((rhl la rh wr 0 (-1) (-2)).toNatClampNeg)).toNatClampNeg) ((-1 : Int32))) x.toNatClampNeg (rhl la rh wr 0 (-1) (-2))))), (ps, .inl (cI, 24, .inl sl)), (pd, .inl (cI, 24, .inl od)), (ph, .inl (cI, 8, .inl (upd rh (rhl la rh wr 0 (-1) (-2)).toNatClampNeg x))), (pq, .inl (cI, 24, .inl sh))] H := hP
          have hD : va_D A [(pl, .inr (2, [.ref pf, .ref pa, .ref po, .ref pr, .ref ps, .ref pd, .ref ph, .ref pq, .int (nI wo), .int (nI wr), .int sc])), (pf, .inl (cI, 24, .inl fi)), (pa, .inl (cI, 24, .inl la)), (po, .inl (cZ, 24, .inl ov)), (pr, .inl (cI, 24, .inl (upd (upd rg ((rh ((rhl la rh wr 0 (-1) (-2)).toNatClampNeg)).toNatClampNeg) ((-1 : Int32))) x.toNatClampNeg (rhl la rh wr 0 (-1) (-2))))), (ps, .inl (cI, 24, .inl sl)), (pd, .inl (cI, 24, .inl od)), (ph, .inl (cI, 8, .inl (upd rh (rhl la rh wr 0 (-1) (-2)).toNatClampNeg x))), (pq, .inl (cI, 24, .inl sh))] := hD
          refine sm_rv (ws := [(pl, .inr (2, [.ref pf, .ref pa, .ref po, .ref pr, .ref ps, .ref pd, .ref ph, .ref pq, .int (nI wo), .int (nI wr), .int sc])), (pf, .inl (cI, 24, .inl fi)), (pa, .inl (cI, 24, .inl la)), (po, .inl (cZ, 24, .inl ov)), (pr, .inl (cI, 24, .inl (upd (upd rg ((rh ((rhl la rh wr 0 (-1) (-2)).toNatClampNeg)).toNatClampNeg) ((-1 : Int32))) x.toNatClampNeg (rhl la rh wr 0 (-1) (-2))))), (ps, .inl (cI, 24, .inl sl)), (pd, .inl (cI, 24, .inl od)), (ph, .inl (cI, 8, .inl (upd rh (rhl la rh wr 0 (-1) (-2)).toNatClampNeg x))), (pq, .inl (cI, 24, .inl sh))]) hx hb hr hlocks hK (hP.sub [0, 1, 2, 3, 4, 5, 6, 7, 8] rfl) (hD.sub [0, 1, 2, 3, 4, 5, 6, 7, 8] (by decide) rfl) hS ?_ d_Plc_giveRegister_82
          show _ = _
          simp only [gvR, if_pos c_16, if_neg c_33, if_neg c_65, e_50, reduceCtorEq, eq_self, if_true, if_false]
    · skip
      refine sm_rv (ws := [(pl, .inr (2, [.ref pf, .ref pa, .ref po, .ref pr, .ref ps, .ref pd, .ref ph, .ref pq, .int (nI wo), .int (nI wr), .int sc])), (pf, .inl (cI, 24, .inl fi)), (pa, .inl (cI, 24, .inl la)), (po, .inl (cZ, 24, .inl ov)), (pr, .inl (cI, 24, .inl rg)), (ps, .inl (cI, 24, .inl sl)), (pd, .inl (cI, 24, .inl od)), (ph, .inl (cI, 8, .inl rh)), (pq, .inl (cI, 24, .inl sh))]) hx hb hr hlocks hK (hP.sub [0, 1, 2, 3, 4, 5, 6, 7, 8] rfl) (hD.sub [0, 1, 2, 3, 4, 5, 6, 7, 8] (by decide) rfl) hS ?_ d_Plc_giveRegister_36
      show _ = _
      simp only [gvR, if_pos c_16, if_pos c_33]
  · skip
    refine lv_aload_n hx hb d_Plc_giveRegister_19 rfl (lv_at hl 1 rfl) ?_
    refine lv_iload_n hx hb d_Plc_giveRegister_20 rfl (lv_at hl 2 rfl) ?_
    refine lv_iload_n hx hb d_Plc_giveRegister_21 rfl (lv_at hl 0 rfl) ?_
    refine sm_gov (wc := [(pl, .inr (2, [.ref pf, .ref pa, .ref po, .ref pr, .ref ps, .ref pd, .ref ph, .ref pq, .int (nI wo), .int (nI wr), .int sc])), (pf, .inl (cI, 24, .inl fi)), (pa, .inl (cI, 24, .inl la)), (po, .inl (cZ, 24, .inl ov)), (pr, .inl (cI, 24, .inl rg)), (ps, .inl (cI, 24, .inl sl)), (pd, .inl (cI, 24, .inl od)), (ph, .inl (cI, 8, .inl rh)), (pq, .inl (cI, 24, .inl sh))]) (wr := []) (va_runV (As := [.int x, .int (lF fi la rh x wr 0)]) (rest := []) ⟨hx, hb, hml, hown, ht⟩ ((c_Plc_takeRegister (l := l) (dC := dC) (dI := dI) (cI := cI) (cZ := cZ) (pl := pl) (pf := pf) (pa := pa) (po := po) (pr := pr) (ps := ps) (pd := pd) (ph := ph) (pq := pq) (wo := wo) (wr := wr) (fi := fi) (la := la) (ov := ov) (rg := rg) (sl := sl) (od := od) (rh := rh) (sh := sh) (sc := sc) (x := x) (gg := lF fi la rh x wr 0) hx1 (lF_inB hwr c_16)).at H.size) (sm_cV 2 ht mw_315 mw_4 mw_312 mw_314 mp_13 rfl rfl (by decide +kernel) ⟨Nat.le_of_ble_eq_true rfl, Nat.le_of_ble_eq_true rfl⟩) (sm_preV (ci := 2) hN hK hP hD [0, 1, 2, 3, 4, 5, 6, 7, 8] rfl rfl (by decide) 0 rfl rfl) rfl rfl hl.1 rfl (lv_room (Nat.le_of_ble_eq_true rfl)) d_Plc_giveRegister_22 ⟨Nat.zero_le _, Nat.zero_le _⟩) hP hD hS hA [0, 1, 2, 3, 4, 5, 6, 7, 8] [] rfl rfl (by decide) (by decide) (fun w_22 H locs q_22 hP hD hS => ?_)
    obtain rfl := q_22
    have hP : va_P (dC, dI) smC [(pl, .inr (2, [.ref pf, .ref pa, .ref po, .ref pr, .ref ps, .ref pd, .ref ph, .ref pq, .int (nI wo), .int (nI wr), .int sc])), (pf, .inl (cI, 24, .inl fi)), (pa, .inl (cI, 24, .inl la)), (po, .inl (cZ, 24, .inl ov)), (pr, .inl (cI, 24, .inl (upd rg x.toNatClampNeg (lF fi la rh x wr 0)))), (ps, .inl (cI, 24, .inl sl)), (pd, .inl (cI, 24, .inl od)), (ph, .inl (cI, 8, .inl (upd rh (lF fi la rh x wr 0).toNatClampNeg x))), (pq, .inl (cI, 24, .inl sh))] H := hP
    have hD : va_D A [(pl, .inr (2, [.ref pf, .ref pa, .ref po, .ref pr, .ref ps, .ref pd, .ref ph, .ref pq, .int (nI wo), .int (nI wr), .int sc])), (pf, .inl (cI, 24, .inl fi)), (pa, .inl (cI, 24, .inl la)), (po, .inl (cZ, 24, .inl ov)), (pr, .inl (cI, 24, .inl (upd rg x.toNatClampNeg (lF fi la rh x wr 0)))), (ps, .inl (cI, 24, .inl sl)), (pd, .inl (cI, 24, .inl od)), (ph, .inl (cI, 8, .inl (upd rh (lF fi la rh x wr 0).toNatClampNeg x))), (pq, .inl (cI, 24, .inl sh))] := hD
    refine sm_rv (ws := [(pl, .inr (2, [.ref pf, .ref pa, .ref po, .ref pr, .ref ps, .ref pd, .ref ph, .ref pq, .int (nI wo), .int (nI wr), .int sc])), (pf, .inl (cI, 24, .inl fi)), (pa, .inl (cI, 24, .inl la)), (po, .inl (cZ, 24, .inl ov)), (pr, .inl (cI, 24, .inl (upd rg x.toNatClampNeg (lF fi la rh x wr 0)))), (ps, .inl (cI, 24, .inl sl)), (pd, .inl (cI, 24, .inl od)), (ph, .inl (cI, 8, .inl (upd rh (lF fi la rh x wr 0).toNatClampNeg x))), (pq, .inl (cI, 24, .inl sh))]) hx hb hr hlocks hK (hP.sub [0, 1, 2, 3, 4, 5, 6, 7, 8] rfl) (hD.sub [0, 1, 2, 3, 4, 5, 6, 7, 8] (by decide) rfl) hS ?_ d_Plc_giveRegister_25
    show _ = _
    simp only [gvR, if_neg c_16]
abbrev y_Plc_giveRegisters : MethodName := ⟨"ScanMill$Places", "giveRegisters", "()V"⟩
theorem d_Plc_giveRegisters_0 : decode prog_4_method_18_code 0 = .ok (.iconst 0, 1) := by decide +kernel
theorem d_Plc_giveRegisters_1 : decode prog_4_method_18_code 1 = .ok (.istore_n 1, 1) := by decide +kernel
theorem d_Plc_giveRegisters_2 : decode prog_4_method_18_code 2 = .ok (.iload_n 1, 1) := by decide +kernel
theorem d_Plc_giveRegisters_3 : decode prog_4_method_18_code 3 = .ok (.aload_n 0, 1) := by decide +kernel
theorem d_Plc_giveRegisters_4 : decode prog_4_method_18_code 4 = .ok (.getfield 37, 3) := by decide +kernel
theorem d_Plc_giveRegisters_7 : decode prog_4_method_18_code 7 = .ok (.if_icmp .ge 29, 3) := by decide +kernel
theorem d_Plc_giveRegisters_36 : decode prog_4_method_18_code 36 = .ok (.return_, 1) := by decide +kernel
theorem d_Plc_giveRegisters_10 : decode prog_4_method_18_code 10 = .ok (.aload_n 0, 1) := by decide +kernel
theorem d_Plc_giveRegisters_11 : decode prog_4_method_18_code 11 = .ok (.getfield 28, 3) := by decide +kernel
theorem d_Plc_giveRegisters_14 : decode prog_4_method_18_code 14 = .ok (.iload_n 1, 1) := by decide +kernel
theorem d_Plc_giveRegisters_15 : decode prog_4_method_18_code 15 = .ok (.iaload, 1) := by decide +kernel
theorem d_Plc_giveRegisters_16 : decode prog_4_method_18_code 16 = .ok (.istore_n 2, 1) := by decide +kernel
theorem d_Plc_giveRegisters_17 : decode prog_4_method_18_code 17 = .ok (.aload_n 0, 1) := by decide +kernel
theorem d_Plc_giveRegisters_18 : decode prog_4_method_18_code 18 = .ok (.iload_n 2, 1) := by decide +kernel
theorem d_Plc_giveRegisters_19 : decode prog_4_method_18_code 19 = .ok (.invokevirtual 116, 3) := by decide +kernel
theorem mw_299 : Cond.code ⟨"ScanMill$Places", "areOverCall", "(I)Z"⟩ prog_4_method_6_code 2 (Option.some FieldType.boolean) ∈ wG := wG_t 299 (by decide +kernel) (by decide +kernel)
theorem mw_296 : Cond.methodLink "ScanMill$Places" 116 ⟨"ScanMill$Places", "areOverCall", "(I)Z"⟩ ∈ wG := wG_t 296 (by decide +kernel) (by decide +kernel)
theorem mw_297 : Cond.instanceMethod ⟨"ScanMill$Places", "areOverCall", "(I)Z"⟩ ∈ wG := wG_t 297 (by decide +kernel) (by decide +kernel)
theorem mw_298 : Cond.selects "ScanMill$Places" ⟨"ScanMill$Places", "areOverCall", "(I)Z"⟩ ⟨"ScanMill$Places", "areOverCall", "(I)Z"⟩ ∈ wG := wG_t 298 (by decide +kernel) (by decide +kernel)
theorem d_Plc_giveRegisters_22 : decode prog_4_method_18_code 22 = .ok (.ifCond .ne 8, 3) := by decide +kernel
theorem d_Plc_giveRegisters_30 : decode prog_4_method_18_code 30 = .ok (.iinc 1 1, 3) := by decide +kernel
theorem d_Plc_giveRegisters_33 : decode prog_4_method_18_code 33 = .ok (.goto (-31), 3) := by decide +kernel
theorem d_Plc_giveRegisters_25 : decode prog_4_method_18_code 25 = .ok (.aload_n 0, 1) := by decide +kernel
theorem d_Plc_giveRegisters_26 : decode prog_4_method_18_code 26 = .ok (.iload_n 2, 1) := by decide +kernel
theorem d_Plc_giveRegisters_27 : decode prog_4_method_18_code 27 = .ok (.invokevirtual 119, 3) := by decide +kernel
theorem mw_303 : Cond.code ⟨"ScanMill$Places", "giveRegister", "(I)V"⟩ prog_4_method_19_code 5 (Option.none : Option FieldType) ∈ wG := wG_t 303 (by decide +kernel) (by decide +kernel)
theorem mw_300 : Cond.methodLink "ScanMill$Places" 119 ⟨"ScanMill$Places", "giveRegister", "(I)V"⟩ ∈ wG := wG_t 300 (by decide +kernel) (by decide +kernel)
theorem mw_302 : Cond.instanceMethod ⟨"ScanMill$Places", "giveRegister", "(I)V"⟩ ∈ wG := wG_t 302 (by decide +kernel) (by decide +kernel)
theorem mp_11 : Cond.selects "ScanMill$Places" ⟨"ScanMill$Places", "giveRegister", "(I)V"⟩ ⟨"ScanMill$Places", "giveRegister", "(I)V"⟩ ∈ wG := wG_p 11 (by decide +kernel) (by decide +kernel)
set_option maxRecDepth 100000 in
set_option maxHeartbeats 4000000 in
theorem c_Plc_giveRegisters {l : Launch} {dC : Nat → ClassId} {dI : Nat → Nat → Nat} {cI cZ : ClassId} {pl pf pa po pr ps pd ph pq wo wr : Nat} {fi la ov rg sl od rh sh : Nat → Int32} {sc : Int32} (hwr : wr ≤ 8) (hwo : wo ≤ 24) (hod : ∀ i, i < wo → inB (od i) 24 = true) : sm_V l y_Plc_giveRegisters prog_4_method_18_code 3 none (rmF 4 89) (dC, dI) smC [(cI, .int), (cZ, .boolean)] [.ref pl] [(pl, .inr (2, [.ref pf, .ref pa, .ref po, .ref pr, .ref ps, .ref pd, .ref ph, .ref pq, .int (nI wo), .int (nI wr), .int sc])), (pf, .inl (cI, 24, .inl fi)), (pa, .inl (cI, 24, .inl la)), (po, .inl (cZ, 24, .inl ov)), (pr, .inl (cI, 24, .inl rg)), (ps, .inl (cI, 24, .inl sl)), (pd, .inl (cI, 24, .inl od)), (ph, .inl (cI, 8, .inl rh)), (pq, .inl (cI, 24, .inl sh))] (fun w2 => w2 = [(pl, .inr (2, [.ref pf, .ref pa, .ref po, .ref pr, .ref ps, .ref pd, .ref ph, .ref pq, .int (nI wo), .int (nI wr), .int sc])), (pf, .inl (cI, 24, .inl fi)), (pa, .inl (cI, 24, .inl la)), (po, .inl (cZ, 24, .inl ov)), (pr, .inl (cI, 24, .inl ((gRs fi la ov od wr wo 0 rg rh).1))), (ps, .inl (cI, 24, .inl sl)), (pd, .inl (cI, 24, .inl od)), (ph, .inl (cI, 8, .inl ((gRs fi la ov od wr wo 0 rg rh).2))), (pq, .inl (cI, 24, .inl sh))]) := by
  refine sm_V.mk (by decide) (Nat.le_of_ble_eq_true rfl) ?_
  intro p e s m below meth c A H locs ls hx hb hr ht hown hlocks hml hnm hP hK hD hA hS hN hl
  have hl : lv_has ls 3 [(0, .ref pl)] := hl
  refine lv_iconst (v := 0) hx hb d_Plc_giveRegisters_0 (by decide) ?_
  refine lv_istore_n (lv' := [(1, .int ((0 : Int32))), (0, .ref pl)]) hx hb d_Plc_giveRegisters_1 rfl hl (by decide) rfl (fun ls hl => ?_)
  have loop_2 : ∀ (N_2 : Nat) (q : Nat) (i : Nat) (g1 : Nat → Int32) (g2 : Nat → Int32), (q + i = wo) → (gRs fi la ov od wr q i g1 g2 = gRs fi la ov od wr wo 0 rg rh) → q < N_2 → ∀ (H : Heap) (locs : List Loc), va_P (dC, dI) smC [(pl, .inr (2, [.ref pf, .ref pa, .ref po, .ref pr, .ref ps, .ref pd, .ref ph, .ref pq, .int (nI wo), .int (nI wr), .int sc])), (pf, .inl (cI, 24, .inl fi)), (pa, .inl (cI, 24, .inl la)), (po, .inl (cZ, 24, .inl ov)), (pr, .inl (cI, 24, .inl g1)), (ps, .inl (cI, 24, .inl sl)), (pd, .inl (cI, 24, .inl od)), (ph, .inl (cI, 8, .inl g2)), (pq, .inl (cI, 24, .inl sh))] H → va_D A [(pl, .inr (2, [.ref pf, .ref pa, .ref po, .ref pr, .ref ps, .ref pd, .ref ph, .ref pq, .int (nI wo), .int (nI wr), .int sc])), (pf, .inl (cI, 24, .inl fi)), (pa, .inl (cI, 24, .inl la)), (po, .inl (cZ, 24, .inl ov)), (pr, .inl (cI, 24, .inl g1)), (ps, .inl (cI, 24, .inl sl)), (pd, .inl (cI, 24, .inl od)), (ph, .inl (cI, 8, .inl g2)), (pq, .inl (cI, 24, .inl sh))] → va_S A s.heap H locs → ∀ ls : Array Slot, lv_has ls 3 [(0, .ref pl), (1, .int (nI i))] → W p l e (rmF 4 89) s m ([.ref pl] : List Value).toArray below meth c H locs 0 0 (MQ below (va_Qv (fun w2 => w2 = [(pl, .inr (2, [.ref pf, .ref pa, .ref po, .ref pr, .ref ps, .ref pd, .ref ph, .ref pq, .int (nI wo), .int (nI wr), .int sc])), (pf, .inl (cI, 24, .inl fi)), (pa, .inl (cI, 24, .inl la)), (po, .inl (cZ, 24, .inl ov)), (pr, .inl (cI, 24, .inl ((gRs fi la ov od wr wo 0 rg rh).1))), (ps, .inl (cI, 24, .inl sl)), (pd, .inl (cI, 24, .inl od)), (ph, .inl (cI, 8, .inl ((gRs fi la ov od wr wo 0 rg rh).2))), (pq, .inl (cI, 24, .inl sh))]) (sm_B (dC, dI) smC [(cI, .int), (cZ, .boolean)] A) A) ([.ref pl] : List Value).toArray s 0 0 A) (F0 m 2 ls []) := by
    intro N_2
    induction N_2 with
    | zero => intro q i g1 g2 _ _ z; exact absurd z (Nat.not_lt_zero _)
    | succ N_2 ih_2 =>
      intro q i g1 g2 hqi hv m_2 H locs hP hD hS ls hl
      refine lv_iload_n hx hb d_Plc_giveRegisters_2 rfl (lv_at hl 1 rfl) ?_
      refine lv_aload_n hx hb d_Plc_giveRegisters_3 rfl (lv_at hl 0 rfl) ?_
      refine va_get (D := (dC, dI)) (ci := 2) (v := .int (nI wo)) (C := R_Plc) (T := T_Plc) (N := 11) hx hb ht i_Plc hown hK hP 0 rfl rfl 8 (by decide) (ht _ mw_73) (fun _ h9 => h9) rfl d_Plc_giveRegisters_4 ?_
      refine lv_icmp_ge (tgt := 36) hx hb d_Plc_giveRegisters_7 (by decide) (fun c_7 => ?_) (fun c_7 => ?_)
      · skip
        have f_7 : wo ≤ i := (nI_leI (a := wo) (b := i) (by first | omega | decide) (by first | omega | decide)).mp c_7
        obtain rfl : q = 0 := by omega
        refine sm_rv (ws := [(pl, .inr (2, [.ref pf, .ref pa, .ref po, .ref pr, .ref ps, .ref pd, .ref ph, .ref pq, .int (nI wo), .int (nI wr), .int sc])), (pf, .inl (cI, 24, .inl fi)), (pa, .inl (cI, 24, .inl la)), (po, .inl (cZ, 24, .inl ov)), (pr, .inl (cI, 24, .inl g1)), (ps, .inl (cI, 24, .inl sl)), (pd, .inl (cI, 24, .inl od)), (ph, .inl (cI, 8, .inl g2)), (pq, .inl (cI, 24, .inl sh))]) hx hb hr hlocks hK (hP.sub [0, 1, 2, 3, 4, 5, 6, 7, 8] rfl) (hD.sub [0, 1, 2, 3, 4, 5, 6, 7, 8] (by decide) rfl) hS ?_ d_Plc_giveRegisters_36
        show _ = _
        rw [← hv]; rfl
      · skip
        have f_7 : ¬ wo ≤ i := fun z => c_7 ((nI_leI (a := wo) (b := i) (by first | omega | decide) (by first | omega | decide)).mpr z)
        obtain ⟨q1, rfl⟩ : ∃ z, q = z + 1 := ⟨q - 1, by omega⟩
        refine lv_aload_n hx hb d_Plc_giveRegisters_10 rfl (lv_at hl 0 rfl) ?_
        refine va_get (D := (dC, dI)) (ci := 2) (v := .ref pd) (C := R_Plc) (T := T_Plc) (N := 11) hx hb ht i_Plc hown hK hP 0 rfl rfl 5 (by decide) (ht _ mw_70) (fun _ h9 => h9) rfl d_Plc_giveRegisters_11 ?_
        refine lv_iload_n hx hb d_Plc_giveRegisters_14 rfl (lv_at hl 1 rfl) ?_
        refine sm_iald (j := i) hx hb hK hP 6 0 rfl rfl (vp_in_nI (by first | omega | assumption) (by first | decide | omega)) (nI_clamp (by first | omega | (have := sm_lt31; omega))) d_Plc_giveRegisters_15 ?_
        refine lv_istore_n (lv' := [(2, .int (od i)), (0, .ref pl), (1, .int (nI i))]) hx hb d_Plc_giveRegisters_16 rfl hl (by decide) rfl (fun ls hl => ?_)
        refine lv_aload_n hx hb d_Plc_giveRegisters_17 rfl (lv_at hl 1 rfl) ?_
        refine lv_iload_n hx hb d_Plc_giveRegisters_18 rfl (lv_at hl 0 rfl) ?_
        refine sm_goi (wc := [(pl, .inr (2, [.ref pf, .ref pa, .ref po, .ref pr, .ref ps, .ref pd, .ref ph, .ref pq, .int (nI wo), .int (nI wr), .int sc])), (pf, .inl (cI, 24, .inl fi)), (pa, .inl (cI, 24, .inl la)), (po, .inl (cZ, 24, .inl ov)), (pr, .inl (cI, 24, .inl g1)), (ps, .inl (cI, 24, .inl sl)), (pd, .inl (cI, 24, .inl od)), (ph, .inl (cI, 8, .inl g2)), (pq, .inl (cI, 24, .inl sh))]) (wr := []) (va_runV (As := [.int (od i)]) (rest := []) ⟨hx, hb, hml, hown, ht⟩ ((c_Plc_areOverCall (l := l) (dC := dC) (dI := dI) (cI := cI) (cZ := cZ) (pl := pl) (pf := pf) (pa := pa) (po := po) (pr := pr) (ps := ps) (pd := pd) (ph := ph) (pq := pq) (wo := wo) (wr := wr) (fi := fi) (la := la) (ov := ov) (rg := g1) (sl := sl) (od := od) (rh := g2) (sh := sh) (sc := sc) (v := od i) ).at H.size) (sm_cV 1 ht mw_299 mw_4 mw_296 mw_297 mw_298 rfl rfl (by decide +kernel) ⟨Nat.le_of_ble_eq_true rfl, Nat.le_of_ble_eq_true rfl⟩) (sm_preV (ci := 2) hN hK hP hD [0, 1, 2, 3, 4, 5, 6, 7, 8] rfl rfl (by decide) 0 rfl rfl) rfl rfl hl.1 rfl (lv_room (Nat.le_of_ble_eq_true rfl)) d_Plc_giveRegisters_19 ⟨Nat.zero_le _, Nat.zero_le _⟩) hP hD hS hA [0, 1, 2, 3, 4, 5, 6, 7, 8] [] rfl rfl (by decide) (by decide) (fun r_19 w_19 H locs q_19 hP hD hS => ?_)
        obtain ⟨rfl, rfl⟩ := q_19
        have hP : va_P (dC, dI) smC [(pl, .inr (2, [.ref pf, .ref pa, .ref po, .ref pr, .ref ps, .ref pd, .ref ph, .ref pq, .int (nI wo), .int (nI wr), .int sc])), (pf, .inl (cI, 24, .inl fi)), (pa, .inl (cI, 24, .inl la)), (po, .inl (cZ, 24, .inl ov)), (pr, .inl (cI, 24, .inl g1)), (ps, .inl (cI, 24, .inl sl)), (pd, .inl (cI, 24, .inl od)), (ph, .inl (cI, 8, .inl g2)), (pq, .inl (cI, 24, .inl sh))] H := hP
        have hD : va_D A [(pl, .inr (2, [.ref pf, .ref pa, .ref po, .ref pr, .ref ps, .ref pd, .ref ph, .ref pq, .int (nI wo), .int (nI wr), .int sc])), (pf, .inl (cI, 24, .inl fi)), (pa, .inl (cI, 24, .inl la)), (po, .inl (cZ, 24, .inl ov)), (pr, .inl (cI, 24, .inl g1)), (ps, .inl (cI, 24, .inl sl)), (pd, .inl (cI, 24, .inl od)), (ph, .inl (cI, 8, .inl g2)), (pq, .inl (cI, 24, .inl sh))] := hD
        refine lv_if_ne (tgt := 30) hx hb d_Plc_giveRegisters_22 (by decide) (fun c_22 => ?_) (fun c_22 => ?_)
        · skip
          have e_22 : (ovB ov (od i)) = true := b2i_ne0 c_22
          refine lv_iinc (v := nI (i + 1)) (lv' := [(1, .int (nI (i + 1))), (2, .int (od i)), (0, .ref pl)]) hx hb d_Plc_giveRegisters_30 hl (k := 2) rfl (nI_add i 1) (by decide) rfl (fun ls hl => ?_)
          refine lv_goto (tgt := 2) hx hb d_Plc_giveRegisters_33 (by decide) ?_
          exact ih_2 q1 (i + 1) g1 g2 (by omega) (by rw [← hv, gRs]; simp only [if_pos e_22]) (by omega) _ _ (hP.sub [0, 1, 2, 3, 4, 5, 6, 7, 8] rfl) (hD.sub [0, 1, 2, 3, 4, 5, 6, 7, 8] (by decide) rfl) hS _ (lv_sub hl [2, 0] rfl)
        · skip
          have e_22 : (ovB ov (od i)) = false := b2i_eq0 c_22
          refine lv_aload_n hx hb d_Plc_giveRegisters_25 rfl (lv_at hl 1 rfl) ?_
          refine lv_iload_n hx hb d_Plc_giveRegisters_26 rfl (lv_at hl 0 rfl) ?_
          refine sm_gov (wc := [(pl, .inr (2, [.ref pf, .ref pa, .ref po, .ref pr, .ref ps, .ref pd, .ref ph, .ref pq, .int (nI wo), .int (nI wr), .int sc])), (pf, .inl (cI, 24, .inl fi)), (pa, .inl (cI, 24, .inl la)), (po, .inl (cZ, 24, .inl ov)), (pr, .inl (cI, 24, .inl g1)), (ps, .inl (cI, 24, .inl sl)), (pd, .inl (cI, 24, .inl od)), (ph, .inl (cI, 8, .inl g2)), (pq, .inl (cI, 24, .inl sh))]) (wr := []) (va_runV (As := [.int (od i)]) (rest := []) ⟨hx, hb, hml, hown, ht⟩ ((c_Plc_giveRegister (l := l) (dC := dC) (dI := dI) (cI := cI) (cZ := cZ) (pl := pl) (pf := pf) (pa := pa) (po := po) (pr := pr) (ps := ps) (pd := pd) (ph := ph) (pq := pq) (wo := wo) (wr := wr) (fi := fi) (la := la) (ov := ov) (rg := g1) (sl := sl) (od := od) (rh := g2) (sh := sh) (sc := sc) (x := od i) (hod i (by omega)) hwr).at H.size) (sm_cV 1 ht mw_303 mw_4 mw_300 mw_302 mp_11 rfl rfl (by decide +kernel) ⟨Nat.le_of_ble_eq_true rfl, Nat.le_of_ble_eq_true rfl⟩) (sm_preV (ci := 2) hN hK hP hD [0, 1, 2, 3, 4, 5, 6, 7, 8] rfl rfl (by decide) 0 rfl rfl) rfl rfl hl.1 rfl (lv_room (Nat.le_of_ble_eq_true rfl)) d_Plc_giveRegisters_27 ⟨Nat.zero_le _, Nat.zero_le _⟩) hP hD hS hA [0, 1, 2, 3, 4, 5, 6, 7, 8] [] rfl rfl (by decide) (by decide) (fun w_27 H locs q_27 hP hD hS => ?_)
          obtain rfl := q_27
          have hP : va_P (dC, dI) smC [(pl, .inr (2, [.ref pf, .ref pa, .ref po, .ref pr, .ref ps, .ref pd, .ref ph, .ref pq, .int (nI wo), .int (nI wr), .int sc])), (pf, .inl (cI, 24, .inl fi)), (pa, .inl (cI, 24, .inl la)), (po, .inl (cZ, 24, .inl ov)), (pr, .inl (cI, 24, .inl ((gvR fi la g1 g2 wr (od i)).1))), (ps, .inl (cI, 24, .inl sl)), (pd, .inl (cI, 24, .inl od)), (ph, .inl (cI, 8, .inl ((gvR fi la g1 g2 wr (od i)).2))), (pq, .inl (cI, 24, .inl sh))] H := hP
          have hD : va_D A [(pl, .inr (2, [.ref pf, .ref pa, .ref po, .ref pr, .ref ps, .ref pd, .ref ph, .ref pq, .int (nI wo), .int (nI wr), .int sc])), (pf, .inl (cI, 24, .inl fi)), (pa, .inl (cI, 24, .inl la)), (po, .inl (cZ, 24, .inl ov)), (pr, .inl (cI, 24, .inl ((gvR fi la g1 g2 wr (od i)).1))), (ps, .inl (cI, 24, .inl sl)), (pd, .inl (cI, 24, .inl od)), (ph, .inl (cI, 8, .inl ((gvR fi la g1 g2 wr (od i)).2))), (pq, .inl (cI, 24, .inl sh))] := hD
          refine lv_iinc (v := nI (i + 1)) (lv' := [(1, .int (nI (i + 1))), (2, .int (od i)), (0, .ref pl)]) hx hb d_Plc_giveRegisters_30 hl (k := 2) rfl (nI_add i 1) (by decide) rfl (fun ls hl => ?_)
          refine lv_goto (tgt := 2) hx hb d_Plc_giveRegisters_33 (by decide) ?_
          exact ih_2 q1 (i + 1) ((gvR fi la g1 g2 wr (od i)).1) ((gvR fi la g1 g2 wr (od i)).2) (by omega) (by rw [← hv, gRs]; simp only [if_neg (Bool.eq_false_iff.mp e_22)]) (by omega) _ _ (hP.sub [0, 1, 2, 3, 4, 5, 6, 7, 8] rfl) (hD.sub [0, 1, 2, 3, 4, 5, 6, 7, 8] (by decide) rfl) hS _ (lv_sub hl [2, 0] rfl)
  exact loop_2 (wo + 1) wo 0 rg rh (by omega) rfl (by omega) _ _ (hP.sub [0, 1, 2, 3, 4, 5, 6, 7, 8] rfl) (hD.sub [0, 1, 2, 3, 4, 5, 6, 7, 8] (by decide) rfl) hS _ (lv_sub hl [1, 0] rfl)
abbrev y_Plc_giveSlot : MethodName := ⟨"ScanMill$Places", "giveSlot", "(I)V"⟩
theorem d_Plc_giveSlot_0 : decode prog_4_method_23_code 0 = .ok (.aload_n 0, 1) := by decide +kernel
theorem d_Plc_giveSlot_1 : decode prog_4_method_23_code 1 = .ok (.aload_n 0, 1) := by decide +kernel
theorem d_Plc_giveSlot_2 : decode prog_4_method_23_code 2 = .ok (.getfield 34, 3) := by decide +kernel
theorem mw_72 : Cond.fieldLink "ScanMill$Places" 34 "ScanMill$Places" "slotHolders" "[I" ∈ wG := wG_t 72 (by decide +kernel) (by decide +kernel)
theorem d_Plc_giveSlot_5 : decode prog_4_method_23_code 5 = .ok (.bipush 24, 2) := by decide +kernel
theorem d_Plc_giveSlot_7 : decode prog_4_method_23_code 7 = .ok (.iload_n 1, 1) := by decide +kernel
theorem d_Plc_giveSlot_8 : decode prog_4_method_23_code 8 = .ok (.invokevirtual 122, 3) := by decide +kernel
theorem d_Plc_giveSlot_11 : decode prog_4_method_23_code 11 = .ok (.istore_n 2, 1) := by decide +kernel
theorem d_Plc_giveSlot_12 : decode prog_4_method_23_code 12 = .ok (.iload_n 2, 1) := by decide +kernel
theorem d_Plc_giveSlot_13 : decode prog_4_method_23_code 13 = .ok (.iconst (-1), 1) := by decide +kernel
theorem d_Plc_giveSlot_14 : decode prog_4_method_23_code 14 = .ok (.if_icmp .ne 4, 3) := by decide +kernel
theorem d_Plc_giveSlot_18 : decode prog_4_method_23_code 18 = .ok (.aload_n 0, 1) := by decide +kernel
theorem d_Plc_giveSlot_19 : decode prog_4_method_23_code 19 = .ok (.getfield 34, 3) := by decide +kernel
theorem d_Plc_giveSlot_22 : decode prog_4_method_23_code 22 = .ok (.iload_n 2, 1) := by decide +kernel
theorem d_Plc_giveSlot_23 : decode prog_4_method_23_code 23 = .ok (.iload_n 1, 1) := by decide +kernel
theorem d_Plc_giveSlot_24 : decode prog_4_method_23_code 24 = .ok (.iastore, 1) := by decide +kernel
theorem d_Plc_giveSlot_25 : decode prog_4_method_23_code 25 = .ok (.aload_n 0, 1) := by decide +kernel
theorem d_Plc_giveSlot_26 : decode prog_4_method_23_code 26 = .ok (.getfield 25, 3) := by decide +kernel
theorem d_Plc_giveSlot_29 : decode prog_4_method_23_code 29 = .ok (.iload_n 1, 1) := by decide +kernel
theorem d_Plc_giveSlot_30 : decode prog_4_method_23_code 30 = .ok (.iload_n 2, 1) := by decide +kernel
theorem d_Plc_giveSlot_31 : decode prog_4_method_23_code 31 = .ok (.iastore, 1) := by decide +kernel
theorem d_Plc_giveSlot_32 : decode prog_4_method_23_code 32 = .ok (.aload_n 0, 1) := by decide +kernel
theorem d_Plc_giveSlot_33 : decode prog_4_method_23_code 33 = .ok (.aload_n 0, 1) := by decide +kernel
theorem d_Plc_giveSlot_34 : decode prog_4_method_23_code 34 = .ok (.getfield 44, 3) := by decide +kernel
theorem d_Plc_giveSlot_37 : decode prog_4_method_23_code 37 = .ok (.iload_n 2, 1) := by decide +kernel
theorem d_Plc_giveSlot_38 : decode prog_4_method_23_code 38 = .ok (.iconst 1, 1) := by decide +kernel
theorem d_Plc_giveSlot_39 : decode prog_4_method_23_code 39 = .ok (.iadd, 1) := by decide +kernel
theorem d_Plc_giveSlot_40 : decode prog_4_method_23_code 40 = .ok (.invokestatic 84, 3) := by decide +kernel
theorem mw_257 : Cond.methodLink "ScanMill$Places" 84 ⟨"java/lang/Math", "max", "(II)I"⟩ ∈ wG := wG_t 257 (by decide +kernel) (by decide +kernel)
theorem mw_258 : Cond.static ⟨"java/lang/Math", "max", "(II)I"⟩ ∈ wG := wG_t 258 (by decide +kernel) (by decide +kernel)
theorem mw_259 : Cond.code ⟨"java/lang/Math", "max", "(II)I"⟩ prog_11_method_65_code 2 (Option.some FieldType.int) ∈ wG := wG_t 259 (by decide +kernel) (by decide +kernel)
theorem d_Plc_giveSlot_43 : decode prog_4_method_23_code 43 = .ok (.putfield 44, 3) := by decide +kernel
theorem d_Plc_giveSlot_46 : decode prog_4_method_23_code 46 = .ok (.return_, 1) := by decide +kernel
theorem d_Plc_giveSlot_17 : decode prog_4_method_23_code 17 = .ok (.return_, 1) := by decide +kernel
set_option maxRecDepth 100000 in
set_option maxHeartbeats 4000000 in
theorem c_Plc_giveSlot {l : Launch} {dC : Nat → ClassId} {dI : Nat → Nat → Nat} {cI cZ : ClassId} {pl pf pa po pr ps pd ph pq wo wr : Nat} {fi la ov rg sl od rh sh : Nat → Int32} {sc : Int32} {x : Int32} (hx1 : inB x 24 = true) : sm_V l y_Plc_giveSlot prog_4_method_23_code 3 none (rmF 3 65) (dC, dI) smC [(cI, .int), (cZ, .boolean)] [.ref pl, .int x] [(pl, .inr (2, [.ref pf, .ref pa, .ref po, .ref pr, .ref ps, .ref pd, .ref ph, .ref pq, .int (nI wo), .int (nI wr), .int sc])), (pf, .inl (cI, 24, .inl fi)), (pa, .inl (cI, 24, .inl la)), (po, .inl (cZ, 24, .inl ov)), (pr, .inl (cI, 24, .inl rg)), (ps, .inl (cI, 24, .inl sl)), (pd, .inl (cI, 24, .inl od)), (ph, .inl (cI, 8, .inl rh)), (pq, .inl (cI, 24, .inl sh))] (fun w2 => w2 = [(pl, .inr (2, [.ref pf, .ref pa, .ref po, .ref pr, .ref ps, .ref pd, .ref ph, .ref pq, .int (nI wo), .int (nI wr), .int ((gvS fi la sl sh sc x).2.2)])), (pf, .inl (cI, 24, .inl fi)), (pa, .inl (cI, 24, .inl la)), (po, .inl (cZ, 24, .inl ov)), (pr, .inl (cI, 24, .inl rg)), (ps, .inl (cI, 24, .inl ((gvS fi la sl sh sc x).1))), (pd, .inl (cI, 24, .inl od)), (ph, .inl (cI, 8, .inl rh)), (pq, .inl (cI, 24, .inl ((gvS fi la sl sh sc x).2.1)))]) := by
  refine sm_V.mk (by decide) (Nat.le_of_ble_eq_true rfl) ?_
  intro p e s m below meth c A H locs ls hx hb hr ht hown hlocks hml hnm hP hK hD hA hS hN hl
  have hl : lv_has ls 3 [(0, .ref pl), (1, .int x)] := hl
  refine lv_aload_n hx hb d_Plc_giveSlot_0 rfl (lv_at hl 0 rfl) ?_
  refine lv_aload_n hx hb d_Plc_giveSlot_1 rfl (lv_at hl 0 rfl) ?_
  refine va_get (D := (dC, dI)) (ci := 2) (v := .ref pq) (C := R_Plc) (T := T_Plc) (N := 11) hx hb ht i_Plc hown hK hP 0 rfl rfl 7 (by decide) (ht _ mw_72) (fun _ h9 => h9) rfl d_Plc_giveSlot_2 ?_
  refine lv_bipush (v := 24) hx hb d_Plc_giveSlot_5 (by decide) ?_
  refine lv_iload_n hx hb d_Plc_giveSlot_7 rfl (lv_at hl 1 rfl) ?_
  refine sm_goi (wc := [(pl, .inr (2, [.ref pf, .ref pa, .ref po, .ref pr, .ref ps, .ref pd, .ref ph, .ref pq, .int (nI wo), .int (nI wr), .int sc])), (pf, .inl (cI, 24, .inl fi)), (pa, .inl (cI, 24, .inl la)), (po, .inl (cZ, 24, .inl ov)), (pr, .inl (cI, 24, .inl rg)), (ps, .inl (cI, 24, .inl sl)), (pd, .inl (cI, 24, .inl od)), (ph, .inl (cI, 8, .inl rh)), (pq, .inl (cI, 24, .inl sh))]) (wr := []) (va_runV (As := [.ref pq, .int ((24 : Int32)), .int x]) (rest := []) ⟨hx, hb, hml, hown, ht⟩ ((c_Plc_leastFreeS (l := l) (dC := dC) (dI := dI) (cI := cI) (cZ := cZ) (pl := pl) (pf := pf) (pa := pa) (po := po) (pr := pr) (ps := ps) (pd := pd) (ph := ph) (pq := pq) (wo := wo) (wr := wr) (fi := fi) (la := la) (ov := ov) (rg := rg) (sl := sl) (od := od) (rh := rh) (sh := sh) (sc := sc) (mm := 24) (x := x) (Nat.le_refl 24)).at H.size) (sm_cV 3 ht mw_307 mw_4 mw_304 mw_306 mp_12 rfl rfl (by decide +kernel) ⟨Nat.le_of_ble_eq_true rfl, Nat.le_of_ble_eq_true rfl⟩) (sm_preV (ci := 2) hN hK hP hD [0, 1, 2, 3, 4, 5, 6, 7, 8] rfl rfl (by decide) 0 rfl rfl) rfl rfl hl.1 rfl (lv_room (Nat.le_of_ble_eq_true rfl)) d_Plc_giveSlot_8 ⟨Nat.zero_le _, Nat.zero_le _⟩) hP hD hS hA [0, 1, 2, 3, 4, 5, 6, 7, 8] [] rfl rfl (by decide) (by decide) (fun r_8 w_8 H locs q_8 hP hD hS => ?_)
  obtain ⟨rfl, rfl⟩ := q_8
  have hP : va_P (dC, dI) smC [(pl, .inr (2, [.ref pf, .ref pa, .ref po, .ref pr, .ref ps, .ref pd, .ref ph, .ref pq, .int (nI wo), .int (nI wr), .int sc])), (pf, .inl (cI, 24, .inl fi)), (pa, .inl (cI, 24, .inl la)), (po, .inl (cZ, 24, .inl ov)), (pr, .inl (cI, 24, .inl rg)), (ps, .inl (cI, 24, .inl sl)), (pd, .inl (cI, 24, .inl od)), (ph, .inl (cI, 8, .inl rh)), (pq, .inl (cI, 24, .inl sh))] H := hP
  have hD : va_D A [(pl, .inr (2, [.ref pf, .ref pa, .ref po, .ref pr, .ref ps, .ref pd, .ref ph, .ref pq, .int (nI wo), .int (nI wr), .int sc])), (pf, .inl (cI, 24, .inl fi)), (pa, .inl (cI, 24, .inl la)), (po, .inl (cZ, 24, .inl ov)), (pr, .inl (cI, 24, .inl rg)), (ps, .inl (cI, 24, .inl sl)), (pd, .inl (cI, 24, .inl od)), (ph, .inl (cI, 8, .inl rh)), (pq, .inl (cI, 24, .inl sh))] := hD
  refine lv_istore_n (lv' := [(2, .int (lF fi la sh x 24 0)), (0, .ref pl), (1, .int x)]) hx hb d_Plc_giveSlot_11 rfl hl (by decide) rfl (fun ls hl => ?_)
  refine lv_iload_n hx hb d_Plc_giveSlot_12 rfl (lv_at hl 0 rfl) ?_
  refine lv_iconst (v := -1) hx hb d_Plc_giveSlot_13 (by decide) ?_
  refine lv_icmp_ne (tgt := 18) hx hb d_Plc_giveSlot_14 (by decide) (fun c_14 => ?_) (fun c_14 => ?_)
  · skip
    refine lv_aload_n hx hb d_Plc_giveSlot_18 rfl (lv_at hl 1 rfl) ?_
    refine va_get (D := (dC, dI)) (ci := 2) (v := .ref pq) (C := R_Plc) (T := T_Plc) (N := 11) hx hb ht i_Plc hown hK hP 0 rfl rfl 7 (by decide) (ht _ mw_72) (fun _ h9 => h9) rfl d_Plc_giveSlot_19 ?_
    refine lv_iload_n hx hb d_Plc_giveSlot_22 rfl (lv_at hl 0 rfl) ?_
    refine lv_iload_n hx hb d_Plc_giveSlot_23 rfl (lv_at hl 2 rfl) ?_
    refine sm_iast (j := (lF fi la sh x 24 0).toNatClampNeg) hx hb hK hP hD hS 8 0 rfl rfl (sm_inB (lF_inB (Nat.le_refl 24) c_14)) rfl d_Plc_giveSlot_24 (fun H locs hP hD hS => ?_)
    have hP : va_P (dC, dI) smC [(pl, .inr (2, [.ref pf, .ref pa, .ref po, .ref pr, .ref ps, .ref pd, .ref ph, .ref pq, .int (nI wo), .int (nI wr), .int sc])), (pf, .inl (cI, 24, .inl fi)), (pa, .inl (cI, 24, .inl la)), (po, .inl (cZ, 24, .inl ov)), (pr, .inl (cI, 24, .inl rg)), (ps, .inl (cI, 24, .inl sl)), (pd, .inl (cI, 24, .inl od)), (ph, .inl (cI, 8, .inl rh)), (pq, .inl (cI, 24, .inl (upd sh ((lF fi la sh x 24 0).toNatClampNeg) x)))] H := hP
    have hD : va_D A [(pl, .inr (2, [.ref pf, .ref pa, .ref po, .ref pr, .ref ps, .ref pd, .ref ph, .ref pq, .int (nI wo), .int (nI wr), .int sc])), (pf, .inl (cI, 24, .inl fi)), (pa, .inl (cI, 24, .inl la)), (po, .inl (cZ, 24, .inl ov)), (pr, .inl (cI, 24, .inl rg)), (ps, .inl (cI, 24, .inl sl)), (pd, .inl (cI, 24, .inl od)), (ph, .inl (cI, 8, .inl rh)), (pq, .inl (cI, 24, .inl (upd sh ((lF fi la sh x 24 0).toNatClampNeg) x)))] := hD
    refine lv_aload_n hx hb d_Plc_giveSlot_25 rfl (lv_at hl 1 rfl) ?_
    refine va_get (D := (dC, dI)) (ci := 2) (v := .ref ps) (C := R_Plc) (T := T_Plc) (N := 11) hx hb ht i_Plc hown hK hP 0 rfl rfl 4 (by decide) (ht _ mw_69) (fun _ h9 => h9) rfl d_Plc_giveSlot_26 ?_
    refine lv_iload_n hx hb d_Plc_giveSlot_29 rfl (lv_at hl 2 rfl) ?_
    refine lv_iload_n hx hb d_Plc_giveSlot_30 rfl (lv_at hl 0 rfl) ?_
    refine sm_iast (j := x.toNatClampNeg) hx hb hK hP hD hS 5 0 rfl rfl (sm_inB hx1) rfl d_Plc_giveSlot_31 (fun H locs hP hD hS => ?_)
    have hP : va_P (dC, dI) smC [(pl, .inr (2, [.ref pf, .ref pa, .ref po, .ref pr, .ref ps, .ref pd, .ref ph, .ref pq, .int (nI wo), .int (nI wr), .int sc])), (pf, .inl (cI, 24, .inl fi)), (pa, .inl (cI, 24, .inl la)), (po, .inl (cZ, 24, .inl ov)), (pr, .inl (cI, 24, .inl rg)), (ps, .inl (cI, 24, .inl (upd sl x.toNatClampNeg (lF fi la sh x 24 0)))), (pd, .inl (cI, 24, .inl od)), (ph, .inl (cI, 8, .inl rh)), (pq, .inl (cI, 24, .inl (upd sh ((lF fi la sh x 24 0).toNatClampNeg) x)))] H := hP
    have hD : va_D A [(pl, .inr (2, [.ref pf, .ref pa, .ref po, .ref pr, .ref ps, .ref pd, .ref ph, .ref pq, .int (nI wo), .int (nI wr), .int sc])), (pf, .inl (cI, 24, .inl fi)), (pa, .inl (cI, 24, .inl la)), (po, .inl (cZ, 24, .inl ov)), (pr, .inl (cI, 24, .inl rg)), (ps, .inl (cI, 24, .inl (upd sl x.toNatClampNeg (lF fi la sh x 24 0)))), (pd, .inl (cI, 24, .inl od)), (ph, .inl (cI, 8, .inl rh)), (pq, .inl (cI, 24, .inl (upd sh ((lF fi la sh x 24 0).toNatClampNeg) x)))] := hD
    refine lv_aload_n hx hb d_Plc_giveSlot_32 rfl (lv_at hl 1 rfl) ?_
    refine lv_aload_n hx hb d_Plc_giveSlot_33 rfl (lv_at hl 1 rfl) ?_
    refine va_get (D := (dC, dI)) (ci := 2) (v := .int sc) (C := R_Plc) (T := T_Plc) (N := 11) hx hb ht i_Plc hown hK hP 0 rfl rfl 10 (by decide) (ht _ mw_75) (fun _ h9 => h9) rfl d_Plc_giveSlot_34 ?_
    refine lv_iload_n hx hb d_Plc_giveSlot_37 rfl (lv_at hl 0 rfl) ?_
    refine lv_iconst (v := 1) hx hb d_Plc_giveSlot_38 (by decide) ?_
    refine lv_iadd hx hb d_Plc_giveSlot_39 ?_
    refine va_mmax hx hb (by rw [hml]; exact hl.1.symm) hown (ht _ mw_257) (ht _ mw_258) (ht _ mw_8) (ht _ mw_259) (Nat.le_of_ble_eq_true rfl) (Nat.le_of_ble_eq_true rfl) (Nat.zero_le _) (Nat.zero_le _) d_Plc_giveSlot_40 ?_
    refine va_put (D := (dC, dI)) (ci := 2) (v := .int (if sc < (lF fi la sh x 24 0) + ((1 : Int32)) then (lF fi la sh x 24 0) + ((1 : Int32)) else sc)) (ty := .int) (C := R_Plc) (T := T_Plc) (N := 11) hx hb ht i_Plc t_Plc t_Plc_ok n_Plc hown hK hP hD hS 0 rfl rfl 10 (by decide) (ht _ mw_75) (fun _ h9 => h9) rfl (by decide +kernel) rfl rfl (Nat.le_of_ble_eq_true rfl) d_Plc_giveSlot_43 (fun H locs hP hD hS => ?_)
    have hP : va_P (dC, dI) smC [(pl, .inr (2, [.ref pf, .ref pa, .ref po, .ref pr, .ref ps, .ref pd, .ref ph, .ref pq, .int (nI wo), .int (nI wr), .int (if sc < (lF fi la sh x 24 0) + ((1 : Int32)) then (lF fi la sh x 24 0) + ((1 : Int32)) else sc)])), (pf, .inl (cI, 24, .inl fi)), (pa, .inl (cI, 24, .inl la)), (po, .inl (cZ, 24, .inl ov)), (pr, .inl (cI, 24, .inl rg)), (ps, .inl (cI, 24, .inl (upd sl x.toNatClampNeg (lF fi la sh x 24 0)))), (pd, .inl (cI, 24, .inl od)), (ph, .inl (cI, 8, .inl rh)), (pq, .inl (cI, 24, .inl (upd sh ((lF fi la sh x 24 0).toNatClampNeg) x)))] H := hP
    have hD : va_D A [(pl, .inr (2, [.ref pf, .ref pa, .ref po, .ref pr, .ref ps, .ref pd, .ref ph, .ref pq, .int (nI wo), .int (nI wr), .int (if sc < (lF fi la sh x 24 0) + ((1 : Int32)) then (lF fi la sh x 24 0) + ((1 : Int32)) else sc)])), (pf, .inl (cI, 24, .inl fi)), (pa, .inl (cI, 24, .inl la)), (po, .inl (cZ, 24, .inl ov)), (pr, .inl (cI, 24, .inl rg)), (ps, .inl (cI, 24, .inl (upd sl x.toNatClampNeg (lF fi la sh x 24 0)))), (pd, .inl (cI, 24, .inl od)), (ph, .inl (cI, 8, .inl rh)), (pq, .inl (cI, 24, .inl (upd sh ((lF fi la sh x 24 0).toNatClampNeg) x)))] := hD
    refine sm_rv (ws := [(pl, .inr (2, [.ref pf, .ref pa, .ref po, .ref pr, .ref ps, .ref pd, .ref ph, .ref pq, .int (nI wo), .int (nI wr), .int (if sc < (lF fi la sh x 24 0) + ((1 : Int32)) then (lF fi la sh x 24 0) + ((1 : Int32)) else sc)])), (pf, .inl (cI, 24, .inl fi)), (pa, .inl (cI, 24, .inl la)), (po, .inl (cZ, 24, .inl ov)), (pr, .inl (cI, 24, .inl rg)), (ps, .inl (cI, 24, .inl (upd sl x.toNatClampNeg (lF fi la sh x 24 0)))), (pd, .inl (cI, 24, .inl od)), (ph, .inl (cI, 8, .inl rh)), (pq, .inl (cI, 24, .inl (upd sh ((lF fi la sh x 24 0).toNatClampNeg) x)))]) hx hb hr hlocks hK (hP.sub [0, 1, 2, 3, 4, 5, 6, 7, 8] rfl) (hD.sub [0, 1, 2, 3, 4, 5, 6, 7, 8] (by decide) rfl) hS ?_ d_Plc_giveSlot_46
    show _ = _
    simp only [gvS, if_neg c_14]
  · skip
    refine sm_rv (ws := [(pl, .inr (2, [.ref pf, .ref pa, .ref po, .ref pr, .ref ps, .ref pd, .ref ph, .ref pq, .int (nI wo), .int (nI wr), .int sc])), (pf, .inl (cI, 24, .inl fi)), (pa, .inl (cI, 24, .inl la)), (po, .inl (cZ, 24, .inl ov)), (pr, .inl (cI, 24, .inl rg)), (ps, .inl (cI, 24, .inl sl)), (pd, .inl (cI, 24, .inl od)), (ph, .inl (cI, 8, .inl rh)), (pq, .inl (cI, 24, .inl sh))]) hx hb hr hlocks hK (hP.sub [0, 1, 2, 3, 4, 5, 6, 7, 8] rfl) (hD.sub [0, 1, 2, 3, 4, 5, 6, 7, 8] (by decide) rfl) hS ?_ d_Plc_giveSlot_17
    show _ = _
    simp only [gvS, if_pos c_14]
abbrev y_Plc_giveSlots : MethodName := ⟨"ScanMill$Places", "giveSlots", "()V"⟩
theorem d_Plc_giveSlots_0 : decode prog_4_method_22_code 0 = .ok (.iconst 0, 1) := by decide +kernel
theorem d_Plc_giveSlots_1 : decode prog_4_method_22_code 1 = .ok (.istore_n 1, 1) := by decide +kernel
theorem d_Plc_giveSlots_2 : decode prog_4_method_22_code 2 = .ok (.iload_n 1, 1) := by decide +kernel
theorem d_Plc_giveSlots_3 : decode prog_4_method_22_code 3 = .ok (.aload_n 0, 1) := by decide +kernel
theorem d_Plc_giveSlots_4 : decode prog_4_method_22_code 4 = .ok (.getfield 37, 3) := by decide +kernel
theorem d_Plc_giveSlots_7 : decode prog_4_method_22_code 7 = .ok (.if_icmp .ge 31, 3) := by decide +kernel
theorem d_Plc_giveSlots_38 : decode prog_4_method_22_code 38 = .ok (.return_, 1) := by decide +kernel
theorem d_Plc_giveSlots_10 : decode prog_4_method_22_code 10 = .ok (.aload_n 0, 1) := by decide +kernel
theorem d_Plc_giveSlots_11 : decode prog_4_method_22_code 11 = .ok (.getfield 28, 3) := by decide +kernel
theorem d_Plc_giveSlots_14 : decode prog_4_method_22_code 14 = .ok (.iload_n 1, 1) := by decide +kernel
theorem d_Plc_giveSlots_15 : decode prog_4_method_22_code 15 = .ok (.iaload, 1) := by decide +kernel
theorem d_Plc_giveSlots_16 : decode prog_4_method_22_code 16 = .ok (.istore_n 2, 1) := by decide +kernel
theorem d_Plc_giveSlots_17 : decode prog_4_method_22_code 17 = .ok (.aload_n 0, 1) := by decide +kernel
theorem d_Plc_giveSlots_18 : decode prog_4_method_22_code 18 = .ok (.getfield 22, 3) := by decide +kernel
theorem d_Plc_giveSlots_21 : decode prog_4_method_22_code 21 = .ok (.iload_n 2, 1) := by decide +kernel
theorem d_Plc_giveSlots_22 : decode prog_4_method_22_code 22 = .ok (.iaload, 1) := by decide +kernel
theorem d_Plc_giveSlots_23 : decode prog_4_method_22_code 23 = .ok (.iconst (-1), 1) := by decide +kernel
theorem d_Plc_giveSlots_24 : decode prog_4_method_22_code 24 = .ok (.if_icmp .ne 8, 3) := by decide +kernel
theorem d_Plc_giveSlots_32 : decode prog_4_method_22_code 32 = .ok (.iinc 1 1, 3) := by decide +kernel
theorem d_Plc_giveSlots_35 : decode prog_4_method_22_code 35 = .ok (.goto (-33), 3) := by decide +kernel
theorem d_Plc_giveSlots_27 : decode prog_4_method_22_code 27 = .ok (.aload_n 0, 1) := by decide +kernel
theorem d_Plc_giveSlots_28 : decode prog_4_method_22_code 28 = .ok (.iload_n 2, 1) := by decide +kernel
theorem d_Plc_giveSlots_29 : decode prog_4_method_22_code 29 = .ok (.invokevirtual 135, 3) := by decide +kernel
theorem mw_327 : Cond.code ⟨"ScanMill$Places", "giveSlot", "(I)V"⟩ prog_4_method_23_code 3 (Option.none : Option FieldType) ∈ wG := wG_t 327 (by decide +kernel) (by decide +kernel)
theorem mw_324 : Cond.methodLink "ScanMill$Places" 135 ⟨"ScanMill$Places", "giveSlot", "(I)V"⟩ ∈ wG := wG_t 324 (by decide +kernel) (by decide +kernel)
theorem mw_326 : Cond.instanceMethod ⟨"ScanMill$Places", "giveSlot", "(I)V"⟩ ∈ wG := wG_t 326 (by decide +kernel) (by decide +kernel)
theorem mp_16 : Cond.selects "ScanMill$Places" ⟨"ScanMill$Places", "giveSlot", "(I)V"⟩ ⟨"ScanMill$Places", "giveSlot", "(I)V"⟩ ∈ wG := wG_p 16 (by decide +kernel) (by decide +kernel)
set_option maxRecDepth 100000 in
set_option maxHeartbeats 4000000 in
theorem c_Plc_giveSlots {l : Launch} {dC : Nat → ClassId} {dI : Nat → Nat → Nat} {cI cZ : ClassId} {pl pf pa po pr ps pd ph pq wo wr : Nat} {fi la ov rg sl od rh sh : Nat → Int32} {sc : Int32} (hwo : wo ≤ 24) (hod : ∀ i, i < wo → inB (od i) 24 = true) : sm_V l y_Plc_giveSlots prog_4_method_22_code 3 none (rmF 4 87) (dC, dI) smC [(cI, .int), (cZ, .boolean)] [.ref pl] [(pl, .inr (2, [.ref pf, .ref pa, .ref po, .ref pr, .ref ps, .ref pd, .ref ph, .ref pq, .int (nI wo), .int (nI wr), .int sc])), (pf, .inl (cI, 24, .inl fi)), (pa, .inl (cI, 24, .inl la)), (po, .inl (cZ, 24, .inl ov)), (pr, .inl (cI, 24, .inl rg)), (ps, .inl (cI, 24, .inl sl)), (pd, .inl (cI, 24, .inl od)), (ph, .inl (cI, 8, .inl rh)), (pq, .inl (cI, 24, .inl sh))] (fun w2 => w2 = [(pl, .inr (2, [.ref pf, .ref pa, .ref po, .ref pr, .ref ps, .ref pd, .ref ph, .ref pq, .int (nI wo), .int (nI wr), .int ((gSs fi la rg od wo 0 sl sh sc).2.2)])), (pf, .inl (cI, 24, .inl fi)), (pa, .inl (cI, 24, .inl la)), (po, .inl (cZ, 24, .inl ov)), (pr, .inl (cI, 24, .inl rg)), (ps, .inl (cI, 24, .inl ((gSs fi la rg od wo 0 sl sh sc).1))), (pd, .inl (cI, 24, .inl od)), (ph, .inl (cI, 8, .inl rh)), (pq, .inl (cI, 24, .inl ((gSs fi la rg od wo 0 sl sh sc).2.1)))]) := by
  refine sm_V.mk (by decide) (Nat.le_of_ble_eq_true rfl) ?_
  intro p e s m below meth c A H locs ls hx hb hr ht hown hlocks hml hnm hP hK hD hA hS hN hl
  have hl : lv_has ls 3 [(0, .ref pl)] := hl
  refine lv_iconst (v := 0) hx hb d_Plc_giveSlots_0 (by decide) ?_
  refine lv_istore_n (lv' := [(1, .int ((0 : Int32))), (0, .ref pl)]) hx hb d_Plc_giveSlots_1 rfl hl (by decide) rfl (fun ls hl => ?_)
  have loop_2 : ∀ (N_2 : Nat) (q : Nat) (i : Nat) (g1 : Nat → Int32) (g2 : Nat → Int32) (g3 : Int32), (q + i = wo) → (gSs fi la rg od q i g1 g2 g3 = gSs fi la rg od wo 0 sl sh sc) → q < N_2 → ∀ (H : Heap) (locs : List Loc), va_P (dC, dI) smC [(pl, .inr (2, [.ref pf, .ref pa, .ref po, .ref pr, .ref ps, .ref pd, .ref ph, .ref pq, .int (nI wo), .int (nI wr), .int g3])), (pf, .inl (cI, 24, .inl fi)), (pa, .inl (cI, 24, .inl la)), (po, .inl (cZ, 24, .inl ov)), (pr, .inl (cI, 24, .inl rg)), (ps, .inl (cI, 24, .inl g1)), (pd, .inl (cI, 24, .inl od)), (ph, .inl (cI, 8, .inl rh)), (pq, .inl (cI, 24, .inl g2))] H → va_D A [(pl, .inr (2, [.ref pf, .ref pa, .ref po, .ref pr, .ref ps, .ref pd, .ref ph, .ref pq, .int (nI wo), .int (nI wr), .int g3])), (pf, .inl (cI, 24, .inl fi)), (pa, .inl (cI, 24, .inl la)), (po, .inl (cZ, 24, .inl ov)), (pr, .inl (cI, 24, .inl rg)), (ps, .inl (cI, 24, .inl g1)), (pd, .inl (cI, 24, .inl od)), (ph, .inl (cI, 8, .inl rh)), (pq, .inl (cI, 24, .inl g2))] → va_S A s.heap H locs → ∀ ls : Array Slot, lv_has ls 3 [(0, .ref pl), (1, .int (nI i))] → W p l e (rmF 4 87) s m ([.ref pl] : List Value).toArray below meth c H locs 0 0 (MQ below (va_Qv (fun w2 => w2 = [(pl, .inr (2, [.ref pf, .ref pa, .ref po, .ref pr, .ref ps, .ref pd, .ref ph, .ref pq, .int (nI wo), .int (nI wr), .int ((gSs fi la rg od wo 0 sl sh sc).2.2)])), (pf, .inl (cI, 24, .inl fi)), (pa, .inl (cI, 24, .inl la)), (po, .inl (cZ, 24, .inl ov)), (pr, .inl (cI, 24, .inl rg)), (ps, .inl (cI, 24, .inl ((gSs fi la rg od wo 0 sl sh sc).1))), (pd, .inl (cI, 24, .inl od)), (ph, .inl (cI, 8, .inl rh)), (pq, .inl (cI, 24, .inl ((gSs fi la rg od wo 0 sl sh sc).2.1)))]) (sm_B (dC, dI) smC [(cI, .int), (cZ, .boolean)] A) A) ([.ref pl] : List Value).toArray s 0 0 A) (F0 m 2 ls []) := by
    intro N_2
    induction N_2 with
    | zero => intro q i g1 g2 g3 _ _ z; exact absurd z (Nat.not_lt_zero _)
    | succ N_2 ih_2 =>
      intro q i g1 g2 g3 hqi hv m_2 H locs hP hD hS ls hl
      refine lv_iload_n hx hb d_Plc_giveSlots_2 rfl (lv_at hl 1 rfl) ?_
      refine lv_aload_n hx hb d_Plc_giveSlots_3 rfl (lv_at hl 0 rfl) ?_
      refine va_get (D := (dC, dI)) (ci := 2) (v := .int (nI wo)) (C := R_Plc) (T := T_Plc) (N := 11) hx hb ht i_Plc hown hK hP 0 rfl rfl 8 (by decide) (ht _ mw_73) (fun _ h9 => h9) rfl d_Plc_giveSlots_4 ?_
      refine lv_icmp_ge (tgt := 38) hx hb d_Plc_giveSlots_7 (by decide) (fun c_7 => ?_) (fun c_7 => ?_)
      · skip
        have f_7 : wo ≤ i := (nI_leI (a := wo) (b := i) (by first | omega | decide) (by first | omega | decide)).mp c_7
        obtain rfl : q = 0 := by omega
        refine sm_rv (ws := [(pl, .inr (2, [.ref pf, .ref pa, .ref po, .ref pr, .ref ps, .ref pd, .ref ph, .ref pq, .int (nI wo), .int (nI wr), .int g3])), (pf, .inl (cI, 24, .inl fi)), (pa, .inl (cI, 24, .inl la)), (po, .inl (cZ, 24, .inl ov)), (pr, .inl (cI, 24, .inl rg)), (ps, .inl (cI, 24, .inl g1)), (pd, .inl (cI, 24, .inl od)), (ph, .inl (cI, 8, .inl rh)), (pq, .inl (cI, 24, .inl g2))]) hx hb hr hlocks hK (hP.sub [0, 1, 2, 3, 4, 5, 6, 7, 8] rfl) (hD.sub [0, 1, 2, 3, 4, 5, 6, 7, 8] (by decide) rfl) hS ?_ d_Plc_giveSlots_38
        show _ = _
        rw [← hv]; rfl
      · skip
        have f_7 : ¬ wo ≤ i := fun z => c_7 ((nI_leI (a := wo) (b := i) (by first | omega | decide) (by first | omega | decide)).mpr z)
        obtain ⟨q1, rfl⟩ : ∃ z, q = z + 1 := ⟨q - 1, by omega⟩
        refine lv_aload_n hx hb d_Plc_giveSlots_10 rfl (lv_at hl 0 rfl) ?_
        refine va_get (D := (dC, dI)) (ci := 2) (v := .ref pd) (C := R_Plc) (T := T_Plc) (N := 11) hx hb ht i_Plc hown hK hP 0 rfl rfl 5 (by decide) (ht _ mw_70) (fun _ h9 => h9) rfl d_Plc_giveSlots_11 ?_
        refine lv_iload_n hx hb d_Plc_giveSlots_14 rfl (lv_at hl 1 rfl) ?_
        refine sm_iald (j := i) hx hb hK hP 6 0 rfl rfl (vp_in_nI (by first | omega | assumption) (by first | decide | omega)) (nI_clamp (by first | omega | (have := sm_lt31; omega))) d_Plc_giveSlots_15 ?_
        refine lv_istore_n (lv' := [(2, .int (od i)), (0, .ref pl), (1, .int (nI i))]) hx hb d_Plc_giveSlots_16 rfl hl (by decide) rfl (fun ls hl => ?_)
        refine lv_aload_n hx hb d_Plc_giveSlots_17 rfl (lv_at hl 1 rfl) ?_
        refine va_get (D := (dC, dI)) (ci := 2) (v := .ref pr) (C := R_Plc) (T := T_Plc) (N := 11) hx hb ht i_Plc hown hK hP 0 rfl rfl 3 (by decide) (ht _ mw_68) (fun _ h9 => h9) rfl d_Plc_giveSlots_18 ?_
        refine lv_iload_n hx hb d_Plc_giveSlots_21 rfl (lv_at hl 0 rfl) ?_
        refine sm_iald (j := (od i).toNatClampNeg) hx hb hK hP 4 0 rfl rfl (sm_inB (hod i (by omega))) rfl d_Plc_giveSlots_22 ?_
        refine lv_iconst (v := -1) hx hb d_Plc_giveSlots_23 (by decide) ?_
        refine lv_icmp_ne (tgt := 32) hx hb d_Plc_giveSlots_24 (by decide) (fun c_24 => ?_) (fun c_24 => ?_)
        · skip
          refine lv_iinc (v := nI (i + 1)) (lv' := [(1, .int (nI (i + 1))), (2, .int (od i)), (0, .ref pl)]) hx hb d_Plc_giveSlots_32 hl (k := 2) rfl (nI_add i 1) (by decide) rfl (fun ls hl => ?_)
          refine lv_goto (tgt := 2) hx hb d_Plc_giveSlots_35 (by decide) ?_
          exact ih_2 q1 (i + 1) g1 g2 g3 (by omega) (by rw [← hv, gSs]; simp only [if_neg c_24]) (by omega) _ _ (hP.sub [0, 1, 2, 3, 4, 5, 6, 7, 8] rfl) (hD.sub [0, 1, 2, 3, 4, 5, 6, 7, 8] (by decide) rfl) hS _ (lv_sub hl [2, 0] rfl)
        · skip
          refine lv_aload_n hx hb d_Plc_giveSlots_27 rfl (lv_at hl 1 rfl) ?_
          refine lv_iload_n hx hb d_Plc_giveSlots_28 rfl (lv_at hl 0 rfl) ?_
          refine sm_gov (wc := [(pl, .inr (2, [.ref pf, .ref pa, .ref po, .ref pr, .ref ps, .ref pd, .ref ph, .ref pq, .int (nI wo), .int (nI wr), .int g3])), (pf, .inl (cI, 24, .inl fi)), (pa, .inl (cI, 24, .inl la)), (po, .inl (cZ, 24, .inl ov)), (pr, .inl (cI, 24, .inl rg)), (ps, .inl (cI, 24, .inl g1)), (pd, .inl (cI, 24, .inl od)), (ph, .inl (cI, 8, .inl rh)), (pq, .inl (cI, 24, .inl g2))]) (wr := []) (va_runV (As := [.int (od i)]) (rest := []) ⟨hx, hb, hml, hown, ht⟩ ((c_Plc_giveSlot (l := l) (dC := dC) (dI := dI) (cI := cI) (cZ := cZ) (pl := pl) (pf := pf) (pa := pa) (po := po) (pr := pr) (ps := ps) (pd := pd) (ph := ph) (pq := pq) (wo := wo) (wr := wr) (fi := fi) (la := la) (ov := ov) (rg := rg) (sl := g1) (od := od) (rh := rh) (sh := g2) (sc := g3) (x := od i) (hod i (by omega))).at H.size) (sm_cV 1 ht mw_327 mw_4 mw_324 mw_326 mp_16 rfl rfl (by decide +kernel) ⟨Nat.le_of_ble_eq_true rfl, Nat.le_of_ble_eq_true rfl⟩) (sm_preV (ci := 2) hN hK hP hD [0, 1, 2, 3, 4, 5, 6, 7, 8] rfl rfl (by decide) 0 rfl rfl) rfl rfl hl.1 rfl (lv_room (Nat.le_of_ble_eq_true rfl)) d_Plc_giveSlots_29 ⟨Nat.zero_le _, Nat.zero_le _⟩) hP hD hS hA [0, 1, 2, 3, 4, 5, 6, 7, 8] [] rfl rfl (by decide) (by decide) (fun w_29 H locs q_29 hP hD hS => ?_)
          obtain rfl := q_29
          have hP : va_P (dC, dI) smC [(pl, .inr (2, [.ref pf, .ref pa, .ref po, .ref pr, .ref ps, .ref pd, .ref ph, .ref pq, .int (nI wo), .int (nI wr), .int ((gvS fi la g1 g2 g3 (od i)).2.2)])), (pf, .inl (cI, 24, .inl fi)), (pa, .inl (cI, 24, .inl la)), (po, .inl (cZ, 24, .inl ov)), (pr, .inl (cI, 24, .inl rg)), (ps, .inl (cI, 24, .inl ((gvS fi la g1 g2 g3 (od i)).1))), (pd, .inl (cI, 24, .inl od)), (ph, .inl (cI, 8, .inl rh)), (pq, .inl (cI, 24, .inl ((gvS fi la g1 g2 g3 (od i)).2.1)))] H := hP
          have hD : va_D A [(pl, .inr (2, [.ref pf, .ref pa, .ref po, .ref pr, .ref ps, .ref pd, .ref ph, .ref pq, .int (nI wo), .int (nI wr), .int ((gvS fi la g1 g2 g3 (od i)).2.2)])), (pf, .inl (cI, 24, .inl fi)), (pa, .inl (cI, 24, .inl la)), (po, .inl (cZ, 24, .inl ov)), (pr, .inl (cI, 24, .inl rg)), (ps, .inl (cI, 24, .inl ((gvS fi la g1 g2 g3 (od i)).1))), (pd, .inl (cI, 24, .inl od)), (ph, .inl (cI, 8, .inl rh)), (pq, .inl (cI, 24, .inl ((gvS fi la g1 g2 g3 (od i)).2.1)))] := hD
          refine lv_iinc (v := nI (i + 1)) (lv' := [(1, .int (nI (i + 1))), (2, .int (od i)), (0, .ref pl)]) hx hb d_Plc_giveSlots_32 hl (k := 2) rfl (nI_add i 1) (by decide) rfl (fun ls hl => ?_)
          refine lv_goto (tgt := 2) hx hb d_Plc_giveSlots_35 (by decide) ?_
          exact ih_2 q1 (i + 1) ((gvS fi la g1 g2 g3 (od i)).1) ((gvS fi la g1 g2 g3 (od i)).2.1) ((gvS fi la g1 g2 g3 (od i)).2.2) (by omega) (by rw [← hv, gSs]; simp only [if_pos c_24]) (by omega) _ _ (hP.sub [0, 1, 2, 3, 4, 5, 6, 7, 8] rfl) (hD.sub [0, 1, 2, 3, 4, 5, 6, 7, 8] (by decide) rfl) hS _ (lv_sub hl [2, 0] rfl)
  exact loop_2 (wo + 1) wo 0 sl sh sc (by omega) rfl (by omega) _ _ (hP.sub [0, 1, 2, 3, 4, 5, 6, 7, 8] rfl) (hD.sub [0, 1, 2, 3, 4, 5, 6, 7, 8] (by decide) rfl) hS _ (lv_sub hl [1, 0] rfl)
abbrev y_Plc_forget : MethodName := ⟨"ScanMill$Places", "forget", "(I)V"⟩
theorem d_Plc_forget_0 : decode prog_4_method_13_code 0 = .ok (.aload_n 0, 1) := by decide +kernel
theorem d_Plc_forget_1 : decode prog_4_method_13_code 1 = .ok (.getfield 9, 3) := by decide +kernel
theorem d_Plc_forget_4 : decode prog_4_method_13_code 4 = .ok (.bipush (-2), 2) := by decide +kernel
theorem d_Plc_forget_6 : decode prog_4_method_13_code 6 = .ok (.invokestatic 72, 3) := by decide +kernel
theorem mw_255 : Cond.methodLink "ScanMill$Places" 72 ⟨"java/util/Arrays", "fill", "([II)V"⟩ ∈ wG := wG_t 255 (by decide +kernel) (by decide +kernel)
theorem d_Plc_forget_9 : decode prog_4_method_13_code 9 = .ok (.aload_n 0, 1) := by decide +kernel
theorem d_Plc_forget_10 : decode prog_4_method_13_code 10 = .ok (.getfield 15, 3) := by decide +kernel
theorem d_Plc_forget_13 : decode prog_4_method_13_code 13 = .ok (.bipush (-2), 2) := by decide +kernel
theorem d_Plc_forget_15 : decode prog_4_method_13_code 15 = .ok (.invokestatic 72, 3) := by decide +kernel
theorem d_Plc_forget_18 : decode prog_4_method_13_code 18 = .ok (.aload_n 0, 1) := by decide +kernel
theorem d_Plc_forget_19 : decode prog_4_method_13_code 19 = .ok (.getfield 22, 3) := by decide +kernel
theorem d_Plc_forget_22 : decode prog_4_method_13_code 22 = .ok (.iconst (-1), 1) := by decide +kernel
theorem d_Plc_forget_23 : decode prog_4_method_13_code 23 = .ok (.invokestatic 72, 3) := by decide +kernel
theorem d_Plc_forget_26 : decode prog_4_method_13_code 26 = .ok (.aload_n 0, 1) := by decide +kernel
theorem d_Plc_forget_27 : decode prog_4_method_13_code 27 = .ok (.getfield 25, 3) := by decide +kernel
theorem d_Plc_forget_30 : decode prog_4_method_13_code 30 = .ok (.iconst (-1), 1) := by decide +kernel
theorem d_Plc_forget_31 : decode prog_4_method_13_code 31 = .ok (.invokestatic 72, 3) := by decide +kernel
theorem d_Plc_forget_34 : decode prog_4_method_13_code 34 = .ok (.aload_n 0, 1) := by decide +kernel
theorem d_Plc_forget_35 : decode prog_4_method_13_code 35 = .ok (.getfield 31, 3) := by decide +kernel
theorem d_Plc_forget_38 : decode prog_4_method_13_code 38 = .ok (.iconst (-1), 1) := by decide +kernel
theorem d_Plc_forget_39 : decode prog_4_method_13_code 39 = .ok (.invokestatic 72, 3) := by decide +kernel
theorem d_Plc_forget_42 : decode prog_4_method_13_code 42 = .ok (.aload_n 0, 1) := by decide +kernel
theorem d_Plc_forget_43 : decode prog_4_method_13_code 43 = .ok (.getfield 34, 3) := by decide +kernel
theorem d_Plc_forget_46 : decode prog_4_method_13_code 46 = .ok (.iconst (-1), 1) := by decide +kernel
theorem d_Plc_forget_47 : decode prog_4_method_13_code 47 = .ok (.invokestatic 72, 3) := by decide +kernel
theorem d_Plc_forget_50 : decode prog_4_method_13_code 50 = .ok (.aload_n 0, 1) := by decide +kernel
theorem d_Plc_forget_51 : decode prog_4_method_13_code 51 = .ok (.iconst 0, 1) := by decide +kernel
theorem d_Plc_forget_52 : decode prog_4_method_13_code 52 = .ok (.putfield 37, 3) := by decide +kernel
theorem d_Plc_forget_55 : decode prog_4_method_13_code 55 = .ok (.aload_n 0, 1) := by decide +kernel
theorem d_Plc_forget_56 : decode prog_4_method_13_code 56 = .ok (.iconst 0, 1) := by decide +kernel
theorem d_Plc_forget_57 : decode prog_4_method_13_code 57 = .ok (.iload_n 1, 1) := by decide +kernel
theorem d_Plc_forget_58 : decode prog_4_method_13_code 58 = .ok (.bipush 8, 2) := by decide +kernel
theorem d_Plc_forget_60 : decode prog_4_method_13_code 60 = .ok (.invokestatic 78, 3) := by decide +kernel
theorem mw_256 : Cond.methodLink "ScanMill$Places" 78 ⟨"java/lang/Math", "min", "(II)I"⟩ ∈ wG := wG_t 256 (by decide +kernel) (by decide +kernel)
theorem d_Plc_forget_63 : decode prog_4_method_13_code 63 = .ok (.invokestatic 84, 3) := by decide +kernel
theorem d_Plc_forget_66 : decode prog_4_method_13_code 66 = .ok (.putfield 41, 3) := by decide +kernel
theorem d_Plc_forget_69 : decode prog_4_method_13_code 69 = .ok (.aload_n 0, 1) := by decide +kernel
theorem d_Plc_forget_70 : decode prog_4_method_13_code 70 = .ok (.iconst 0, 1) := by decide +kernel
theorem d_Plc_forget_71 : decode prog_4_method_13_code 71 = .ok (.putfield 44, 3) := by decide +kernel
theorem d_Plc_forget_74 : decode prog_4_method_13_code 74 = .ok (.return_, 1) := by decide +kernel
set_option maxRecDepth 100000 in
set_option maxHeartbeats 4000000 in
theorem c_Plc_forget {l : Launch} {dC : Nat → ClassId} {dI : Nat → Nat → Nat} {cI cZ : ClassId} {pl pf pa po pr ps pd ph pq wo wr : Nat} {fi la ov rg sl od rh sh : Nat → Int32} {sc : Int32} {w : Nat} (hw1 : 1 ≤ w) (hw8 : w ≤ 8) : sm_V l y_Plc_forget prog_4_method_13_code 2 none (rmF 1 23) (dC, dI) smC [(cI, .int), (cZ, .boolean)] [.ref pl, .int (nI w)] [(pl, .inr (2, [.ref pf, .ref pa, .ref po, .ref pr, .ref ps, .ref pd, .ref ph, .ref pq, .int (nI wo), .int (nI wr), .int sc])), (pf, .inl (cI, 24, .inl fi)), (pa, .inl (cI, 24, .inl la)), (po, .inl (cZ, 24, .inl ov)), (pr, .inl (cI, 24, .inl rg)), (ps, .inl (cI, 24, .inl sl)), (pd, .inl (cI, 24, .inl od)), (ph, .inl (cI, 8, .inl rh)), (pq, .inl (cI, 24, .inl sh))] (fun w2 => w2 = [(pl, .inr (2, [.ref pf, .ref pa, .ref po, .ref pr, .ref ps, .ref pd, .ref ph, .ref pq, .int ((0 : Int32)), .int (nI w), .int ((0 : Int32))])), (pf, .inl (cI, 24, .inl ((fun _ => (-2 : Int32))))), (pa, .inl (cI, 24, .inl ((fun _ => (-2 : Int32))))), (po, .inl (cZ, 24, .inl ov)), (pr, .inl (cI, 24, .inl ((fun _ => (-1 : Int32))))), (ps, .inl (cI, 24, .inl ((fun _ => (-1 : Int32))))), (pd, .inl (cI, 24, .inl od)), (ph, .inl (cI, 8, .inl ((fun _ => (-1 : Int32))))), (pq, .inl (cI, 24, .inl ((fun _ => (-1 : Int32)))))]) := by
  refine sm_V.mk (by decide) (Nat.le_of_ble_eq_true rfl) ?_
  intro p e s m below meth c A H locs ls hx hb hr ht hown hlocks hml hnm hP hK hD hA hS hN hl
  have hl : lv_has ls 2 [(0, .ref pl), (1, .int (nI w))] := hl
  refine lv_aload_n hx hb d_Plc_forget_0 rfl (lv_at hl 0 rfl) ?_
  refine va_get (D := (dC, dI)) (ci := 2) (v := .ref pf) (C := R_Plc) (T := T_Plc) (N := 11) hx hb ht i_Plc hown hK hP 0 rfl rfl 0 (by decide) (ht _ mw_65) (fun _ h9 => h9) rfl d_Plc_forget_1 ?_
  refine lv_bipush (v := -2) hx hb d_Plc_forget_4 (by decide) ?_
  refine sm_gov (wc := [(pf, .inl (cI, 24, .inl fi))]) (wr := [(pl, .inr (2, [.ref pf, .ref pa, .ref po, .ref pr, .ref ps, .ref pd, .ref ph, .ref pq, .int (nI wo), .int (nI wr), .int sc])), (pa, .inl (cI, 24, .inl la)), (po, .inl (cZ, 24, .inl ov)), (pr, .inl (cI, 24, .inl rg)), (ps, .inl (cI, 24, .inl sl)), (pd, .inl (cI, 24, .inl od)), (ph, .inl (cI, 8, .inl rh)), (pq, .inl (cI, 24, .inl sh))]) (va_runS (As := [.ref pf, .int ((-2 : Int32))]) (rest := []) ⟨hx, hb, hml, hown, ht⟩ ((c_Arr_fill (l := l) (dC := dC) (dI := dI) (cI := cI) (cZ := cZ) (x := pf) (len := 24) (f := fi) (u := (-2 : Int32)) (by decide)).at H.size) (sm_cS 2 ht mw_201 mw_7 mw_255 mw_200 rfl rfl (by decide +kernel) ⟨Nat.le_of_ble_eq_true rfl, Nat.le_of_ble_eq_true rfl⟩) (sm_preS hN hK hP hD [1] rfl rfl (by decide)) rfl rfl hl.1 rfl (lv_room (Nat.le_of_ble_eq_true rfl)) d_Plc_forget_6 ⟨Nat.zero_le _, Nat.zero_le _⟩) hP hD hS hA [1] [0, 2, 3, 4, 5, 6, 7, 8] rfl rfl (by decide) (by decide) (fun w_6 H locs q_6 hP hD hS => ?_)
  obtain rfl := q_6
  have hP : va_P (dC, dI) smC [(pl, .inr (2, [.ref pf, .ref pa, .ref po, .ref pr, .ref ps, .ref pd, .ref ph, .ref pq, .int (nI wo), .int (nI wr), .int sc])), (pa, .inl (cI, 24, .inl la)), (po, .inl (cZ, 24, .inl ov)), (pr, .inl (cI, 24, .inl rg)), (ps, .inl (cI, 24, .inl sl)), (pd, .inl (cI, 24, .inl od)), (ph, .inl (cI, 8, .inl rh)), (pq, .inl (cI, 24, .inl sh)), (pf, .inl (cI, 24, .inl (fun _ => ((-2 : Int32)))))] H := hP
  have hD : va_D A [(pl, .inr (2, [.ref pf, .ref pa, .ref po, .ref pr, .ref ps, .ref pd, .ref ph, .ref pq, .int (nI wo), .int (nI wr), .int sc])), (pa, .inl (cI, 24, .inl la)), (po, .inl (cZ, 24, .inl ov)), (pr, .inl (cI, 24, .inl rg)), (ps, .inl (cI, 24, .inl sl)), (pd, .inl (cI, 24, .inl od)), (ph, .inl (cI, 8, .inl rh)), (pq, .inl (cI, 24, .inl sh)), (pf, .inl (cI, 24, .inl (fun _ => ((-2 : Int32)))))] := hD
  refine lv_aload_n hx hb d_Plc_forget_9 rfl (lv_at hl 0 rfl) ?_
  refine va_get (D := (dC, dI)) (ci := 2) (v := .ref pa) (C := R_Plc) (T := T_Plc) (N := 11) hx hb ht i_Plc hown hK hP 0 rfl rfl 1 (by decide) (ht _ mw_66) (fun _ h9 => h9) rfl d_Plc_forget_10 ?_
  refine lv_bipush (v := -2) hx hb d_Plc_forget_13 (by decide) ?_
  refine sm_gov (wc := [(pa, .inl (cI, 24, .inl la))]) (wr := [(pl, .inr (2, [.ref pf, .ref pa, .ref po, .ref pr, .ref ps, .ref pd, .ref ph, .ref pq, .int (nI wo), .int (nI wr), .int sc])), (po, .inl (cZ, 24, .inl ov)), (pr, .inl (cI, 24, .inl rg)), (ps, .inl (cI, 24, .inl sl)), (pd, .inl (cI, 24, .inl od)), (ph, .inl (cI, 8, .inl rh)), (pq, .inl (cI, 24, .inl sh)), (pf, .inl (cI, 24, .inl (fun _ => ((-2 : Int32)))))]) (va_runS (As := [.ref pa, .int ((-2 : Int32))]) (rest := []) ⟨hx, hb, hml, hown, ht⟩ ((c_Arr_fill (l := l) (dC := dC) (dI := dI) (cI := cI) (cZ := cZ) (x := pa) (len := 24) (f := la) (u := (-2 : Int32)) (by decide)).at H.size) (sm_cS 2 ht mw_201 mw_7 mw_255 mw_200 rfl rfl (by decide +kernel) ⟨Nat.le_of_ble_eq_true rfl, Nat.le_of_ble_eq_true rfl⟩) (sm_preS hN hK hP hD [1] rfl rfl (by decide)) rfl rfl hl.1 rfl (lv_room (Nat.le_of_ble_eq_true rfl)) d_Plc_forget_15 ⟨Nat.zero_le _, Nat.zero_le _⟩) hP hD hS hA [1] [0, 2, 3, 4, 5, 6, 7, 8] rfl rfl (by decide) (by decide) (fun w_15 H locs q_15 hP hD hS => ?_)
  obtain rfl := q_15
  have hP : va_P (dC, dI) smC [(pl, .inr (2, [.ref pf, .ref pa, .ref po, .ref pr, .ref ps, .ref pd, .ref ph, .ref pq, .int (nI wo), .int (nI wr), .int sc])), (po, .inl (cZ, 24, .inl ov)), (pr, .inl (cI, 24, .inl rg)), (ps, .inl (cI, 24, .inl sl)), (pd, .inl (cI, 24, .inl od)), (ph, .inl (cI, 8, .inl rh)), (pq, .inl (cI, 24, .inl sh)), (pf, .inl (cI, 24, .inl (fun _ => ((-2 : Int32))))), (pa, .inl (cI, 24, .inl (fun _ => ((-2 : Int32)))))] H := hP
  have hD : va_D A [(pl, .inr (2, [.ref pf, .ref pa, .ref po, .ref pr, .ref ps, .ref pd, .ref ph, .ref pq, .int (nI wo), .int (nI wr), .int sc])), (po, .inl (cZ, 24, .inl ov)), (pr, .inl (cI, 24, .inl rg)), (ps, .inl (cI, 24, .inl sl)), (pd, .inl (cI, 24, .inl od)), (ph, .inl (cI, 8, .inl rh)), (pq, .inl (cI, 24, .inl sh)), (pf, .inl (cI, 24, .inl (fun _ => ((-2 : Int32))))), (pa, .inl (cI, 24, .inl (fun _ => ((-2 : Int32)))))] := hD
  refine lv_aload_n hx hb d_Plc_forget_18 rfl (lv_at hl 0 rfl) ?_
  refine va_get (D := (dC, dI)) (ci := 2) (v := .ref pr) (C := R_Plc) (T := T_Plc) (N := 11) hx hb ht i_Plc hown hK hP 0 rfl rfl 3 (by decide) (ht _ mw_68) (fun _ h9 => h9) rfl d_Plc_forget_19 ?_
  refine lv_iconst (v := -1) hx hb d_Plc_forget_22 (by decide) ?_
  refine sm_gov (wc := [(pr, .inl (cI, 24, .inl rg))]) (wr := [(pl, .inr (2, [.ref pf, .ref pa, .ref po, .ref pr, .ref ps, .ref pd, .ref ph, .ref pq, .int (nI wo), .int (nI wr), .int sc])), (po, .inl (cZ, 24, .inl ov)), (ps, .inl (cI, 24, .inl sl)), (pd, .inl (cI, 24, .inl od)), (ph, .inl (cI, 8, .inl rh)), (pq, .inl (cI, 24, .inl sh)), (pf, .inl (cI, 24, .inl (fun _ => ((-2 : Int32))))), (pa, .inl (cI, 24, .inl (fun _ => ((-2 : Int32)))))]) (va_runS (As := [.ref pr, .int ((-1 : Int32))]) (rest := []) ⟨hx, hb, hml, hown, ht⟩ ((c_Arr_fill (l := l) (dC := dC) (dI := dI) (cI := cI) (cZ := cZ) (x := pr) (len := 24) (f := rg) (u := (-1 : Int32)) (by decide)).at H.size) (sm_cS 2 ht mw_201 mw_7 mw_255 mw_200 rfl rfl (by decide +kernel) ⟨Nat.le_of_ble_eq_true rfl, Nat.le_of_ble_eq_true rfl⟩) (sm_preS hN hK hP hD [2] rfl rfl (by decide)) rfl rfl hl.1 rfl (lv_room (Nat.le_of_ble_eq_true rfl)) d_Plc_forget_23 ⟨Nat.zero_le _, Nat.zero_le _⟩) hP hD hS hA [2] [0, 1, 3, 4, 5, 6, 7, 8] rfl rfl (by decide) (by decide) (fun w_23 H locs q_23 hP hD hS => ?_)
  obtain rfl := q_23
  have hP : va_P (dC, dI) smC [(pl, .inr (2, [.ref pf, .ref pa, .ref po, .ref pr, .ref ps, .ref pd, .ref ph, .ref pq, .int (nI wo), .int (nI wr), .int sc])), (po, .inl (cZ, 24, .inl ov)), (ps, .inl (cI, 24, .inl sl)), (pd, .inl (cI, 24, .inl od)), (ph, .inl (cI, 8, .inl rh)), (pq, .inl (cI, 24, .inl sh)), (pf, .inl (cI, 24, .inl (fun _ => ((-2 : Int32))))), (pa, .inl (cI, 24, .inl (fun _ => ((-2 : Int32))))), (pr, .inl (cI, 24, .inl (fun _ => ((-1 : Int32)))))] H := hP
  have hD : va_D A [(pl, .inr (2, [.ref pf, .ref pa, .ref po, .ref pr, .ref ps, .ref pd, .ref ph, .ref pq, .int (nI wo), .int (nI wr), .int sc])), (po, .inl (cZ, 24, .inl ov)), (ps, .inl (cI, 24, .inl sl)), (pd, .inl (cI, 24, .inl od)), (ph, .inl (cI, 8, .inl rh)), (pq, .inl (cI, 24, .inl sh)), (pf, .inl (cI, 24, .inl (fun _ => ((-2 : Int32))))), (pa, .inl (cI, 24, .inl (fun _ => ((-2 : Int32))))), (pr, .inl (cI, 24, .inl (fun _ => ((-1 : Int32)))))] := hD
  refine lv_aload_n hx hb d_Plc_forget_26 rfl (lv_at hl 0 rfl) ?_
  refine va_get (D := (dC, dI)) (ci := 2) (v := .ref ps) (C := R_Plc) (T := T_Plc) (N := 11) hx hb ht i_Plc hown hK hP 0 rfl rfl 4 (by decide) (ht _ mw_69) (fun _ h9 => h9) rfl d_Plc_forget_27 ?_
  refine lv_iconst (v := -1) hx hb d_Plc_forget_30 (by decide) ?_
  refine sm_gov (wc := [(ps, .inl (cI, 24, .inl sl))]) (wr := [(pl, .inr (2, [.ref pf, .ref pa, .ref po, .ref pr, .ref ps, .ref pd, .ref ph, .ref pq, .int (nI wo), .int (nI wr), .int sc])), (po, .inl (cZ, 24, .inl ov)), (pd, .inl (cI, 24, .inl od)), (ph, .inl (cI, 8, .inl rh)), (pq, .inl (cI, 24, .inl sh)), (pf, .inl (cI, 24, .inl (fun _ => ((-2 : Int32))))), (pa, .inl (cI, 24, .inl (fun _ => ((-2 : Int32))))), (pr, .inl (cI, 24, .inl (fun _ => ((-1 : Int32)))))]) (va_runS (As := [.ref ps, .int ((-1 : Int32))]) (rest := []) ⟨hx, hb, hml, hown, ht⟩ ((c_Arr_fill (l := l) (dC := dC) (dI := dI) (cI := cI) (cZ := cZ) (x := ps) (len := 24) (f := sl) (u := (-1 : Int32)) (by decide)).at H.size) (sm_cS 2 ht mw_201 mw_7 mw_255 mw_200 rfl rfl (by decide +kernel) ⟨Nat.le_of_ble_eq_true rfl, Nat.le_of_ble_eq_true rfl⟩) (sm_preS hN hK hP hD [2] rfl rfl (by decide)) rfl rfl hl.1 rfl (lv_room (Nat.le_of_ble_eq_true rfl)) d_Plc_forget_31 ⟨Nat.zero_le _, Nat.zero_le _⟩) hP hD hS hA [2] [0, 1, 3, 4, 5, 6, 7, 8] rfl rfl (by decide) (by decide) (fun w_31 H locs q_31 hP hD hS => ?_)
  obtain rfl := q_31
  have hP : va_P (dC, dI) smC [(pl, .inr (2, [.ref pf, .ref pa, .ref po, .ref pr, .ref ps, .ref pd, .ref ph, .ref pq, .int (nI wo), .int (nI wr), .int sc])), (po, .inl (cZ, 24, .inl ov)), (pd, .inl (cI, 24, .inl od)), (ph, .inl (cI, 8, .inl rh)), (pq, .inl (cI, 24, .inl sh)), (pf, .inl (cI, 24, .inl (fun _ => ((-2 : Int32))))), (pa, .inl (cI, 24, .inl (fun _ => ((-2 : Int32))))), (pr, .inl (cI, 24, .inl (fun _ => ((-1 : Int32))))), (ps, .inl (cI, 24, .inl (fun _ => ((-1 : Int32)))))] H := hP
  have hD : va_D A [(pl, .inr (2, [.ref pf, .ref pa, .ref po, .ref pr, .ref ps, .ref pd, .ref ph, .ref pq, .int (nI wo), .int (nI wr), .int sc])), (po, .inl (cZ, 24, .inl ov)), (pd, .inl (cI, 24, .inl od)), (ph, .inl (cI, 8, .inl rh)), (pq, .inl (cI, 24, .inl sh)), (pf, .inl (cI, 24, .inl (fun _ => ((-2 : Int32))))), (pa, .inl (cI, 24, .inl (fun _ => ((-2 : Int32))))), (pr, .inl (cI, 24, .inl (fun _ => ((-1 : Int32))))), (ps, .inl (cI, 24, .inl (fun _ => ((-1 : Int32)))))] := hD
  refine lv_aload_n hx hb d_Plc_forget_34 rfl (lv_at hl 0 rfl) ?_
  refine va_get (D := (dC, dI)) (ci := 2) (v := .ref ph) (C := R_Plc) (T := T_Plc) (N := 11) hx hb ht i_Plc hown hK hP 0 rfl rfl 6 (by decide) (ht _ mw_71) (fun _ h9 => h9) rfl d_Plc_forget_35 ?_
  refine lv_iconst (v := -1) hx hb d_Plc_forget_38 (by decide) ?_
  refine sm_gov (wc := [(ph, .inl (cI, 8, .inl rh))]) (wr := [(pl, .inr (2, [.ref pf, .ref pa, .ref po, .ref pr, .ref ps, .ref pd, .ref ph, .ref pq, .int (nI wo), .int (nI wr), .int sc])), (po, .inl (cZ, 24, .inl ov)), (pd, .inl (cI, 24, .inl od)), (pq, .inl (cI, 24, .inl sh)), (pf, .inl (cI, 24, .inl (fun _ => ((-2 : Int32))))), (pa, .inl (cI, 24, .inl (fun _ => ((-2 : Int32))))), (pr, .inl (cI, 24, .inl (fun _ => ((-1 : Int32))))), (ps, .inl (cI, 24, .inl (fun _ => ((-1 : Int32)))))]) (va_runS (As := [.ref ph, .int ((-1 : Int32))]) (rest := []) ⟨hx, hb, hml, hown, ht⟩ ((c_Arr_fill (l := l) (dC := dC) (dI := dI) (cI := cI) (cZ := cZ) (x := ph) (len := 8) (f := rh) (u := (-1 : Int32)) (by decide)).at H.size) (sm_cS 2 ht mw_201 mw_7 mw_255 mw_200 rfl rfl (by decide +kernel) ⟨Nat.le_of_ble_eq_true rfl, Nat.le_of_ble_eq_true rfl⟩) (sm_preS hN hK hP hD [3] rfl rfl (by decide)) rfl rfl hl.1 rfl (lv_room (Nat.le_of_ble_eq_true rfl)) d_Plc_forget_39 ⟨Nat.zero_le _, Nat.zero_le _⟩) hP hD hS hA [3] [0, 1, 2, 4, 5, 6, 7, 8] rfl rfl (by decide) (by decide) (fun w_39 H locs q_39 hP hD hS => ?_)
  obtain rfl := q_39
  have hP : va_P (dC, dI) smC [(pl, .inr (2, [.ref pf, .ref pa, .ref po, .ref pr, .ref ps, .ref pd, .ref ph, .ref pq, .int (nI wo), .int (nI wr), .int sc])), (po, .inl (cZ, 24, .inl ov)), (pd, .inl (cI, 24, .inl od)), (pq, .inl (cI, 24, .inl sh)), (pf, .inl (cI, 24, .inl (fun _ => ((-2 : Int32))))), (pa, .inl (cI, 24, .inl (fun _ => ((-2 : Int32))))), (pr, .inl (cI, 24, .inl (fun _ => ((-1 : Int32))))), (ps, .inl (cI, 24, .inl (fun _ => ((-1 : Int32))))), (ph, .inl (cI, 8, .inl (fun _ => ((-1 : Int32)))))] H := hP
  have hD : va_D A [(pl, .inr (2, [.ref pf, .ref pa, .ref po, .ref pr, .ref ps, .ref pd, .ref ph, .ref pq, .int (nI wo), .int (nI wr), .int sc])), (po, .inl (cZ, 24, .inl ov)), (pd, .inl (cI, 24, .inl od)), (pq, .inl (cI, 24, .inl sh)), (pf, .inl (cI, 24, .inl (fun _ => ((-2 : Int32))))), (pa, .inl (cI, 24, .inl (fun _ => ((-2 : Int32))))), (pr, .inl (cI, 24, .inl (fun _ => ((-1 : Int32))))), (ps, .inl (cI, 24, .inl (fun _ => ((-1 : Int32))))), (ph, .inl (cI, 8, .inl (fun _ => ((-1 : Int32)))))] := hD
  refine lv_aload_n hx hb d_Plc_forget_42 rfl (lv_at hl 0 rfl) ?_
  refine va_get (D := (dC, dI)) (ci := 2) (v := .ref pq) (C := R_Plc) (T := T_Plc) (N := 11) hx hb ht i_Plc hown hK hP 0 rfl rfl 7 (by decide) (ht _ mw_72) (fun _ h9 => h9) rfl d_Plc_forget_43 ?_
  refine lv_iconst (v := -1) hx hb d_Plc_forget_46 (by decide) ?_
  refine sm_gov (wc := [(pq, .inl (cI, 24, .inl sh))]) (wr := [(pl, .inr (2, [.ref pf, .ref pa, .ref po, .ref pr, .ref ps, .ref pd, .ref ph, .ref pq, .int (nI wo), .int (nI wr), .int sc])), (po, .inl (cZ, 24, .inl ov)), (pd, .inl (cI, 24, .inl od)), (pf, .inl (cI, 24, .inl (fun _ => ((-2 : Int32))))), (pa, .inl (cI, 24, .inl (fun _ => ((-2 : Int32))))), (pr, .inl (cI, 24, .inl (fun _ => ((-1 : Int32))))), (ps, .inl (cI, 24, .inl (fun _ => ((-1 : Int32))))), (ph, .inl (cI, 8, .inl (fun _ => ((-1 : Int32)))))]) (va_runS (As := [.ref pq, .int ((-1 : Int32))]) (rest := []) ⟨hx, hb, hml, hown, ht⟩ ((c_Arr_fill (l := l) (dC := dC) (dI := dI) (cI := cI) (cZ := cZ) (x := pq) (len := 24) (f := sh) (u := (-1 : Int32)) (by decide)).at H.size) (sm_cS 2 ht mw_201 mw_7 mw_255 mw_200 rfl rfl (by decide +kernel) ⟨Nat.le_of_ble_eq_true rfl, Nat.le_of_ble_eq_true rfl⟩) (sm_preS hN hK hP hD [3] rfl rfl (by decide)) rfl rfl hl.1 rfl (lv_room (Nat.le_of_ble_eq_true rfl)) d_Plc_forget_47 ⟨Nat.zero_le _, Nat.zero_le _⟩) hP hD hS hA [3] [0, 1, 2, 4, 5, 6, 7, 8] rfl rfl (by decide) (by decide) (fun w_47 H locs q_47 hP hD hS => ?_)
  obtain rfl := q_47
  have hP : va_P (dC, dI) smC [(pl, .inr (2, [.ref pf, .ref pa, .ref po, .ref pr, .ref ps, .ref pd, .ref ph, .ref pq, .int (nI wo), .int (nI wr), .int sc])), (po, .inl (cZ, 24, .inl ov)), (pd, .inl (cI, 24, .inl od)), (pf, .inl (cI, 24, .inl (fun _ => ((-2 : Int32))))), (pa, .inl (cI, 24, .inl (fun _ => ((-2 : Int32))))), (pr, .inl (cI, 24, .inl (fun _ => ((-1 : Int32))))), (ps, .inl (cI, 24, .inl (fun _ => ((-1 : Int32))))), (ph, .inl (cI, 8, .inl (fun _ => ((-1 : Int32))))), (pq, .inl (cI, 24, .inl (fun _ => ((-1 : Int32)))))] H := hP
  have hD : va_D A [(pl, .inr (2, [.ref pf, .ref pa, .ref po, .ref pr, .ref ps, .ref pd, .ref ph, .ref pq, .int (nI wo), .int (nI wr), .int sc])), (po, .inl (cZ, 24, .inl ov)), (pd, .inl (cI, 24, .inl od)), (pf, .inl (cI, 24, .inl (fun _ => ((-2 : Int32))))), (pa, .inl (cI, 24, .inl (fun _ => ((-2 : Int32))))), (pr, .inl (cI, 24, .inl (fun _ => ((-1 : Int32))))), (ps, .inl (cI, 24, .inl (fun _ => ((-1 : Int32))))), (ph, .inl (cI, 8, .inl (fun _ => ((-1 : Int32))))), (pq, .inl (cI, 24, .inl (fun _ => ((-1 : Int32)))))] := hD
  refine lv_aload_n hx hb d_Plc_forget_50 rfl (lv_at hl 0 rfl) ?_
  refine lv_iconst (v := 0) hx hb d_Plc_forget_51 (by decide) ?_
  refine va_put (D := (dC, dI)) (ci := 2) (v := .int ((0 : Int32))) (ty := .int) (C := R_Plc) (T := T_Plc) (N := 11) hx hb ht i_Plc t_Plc t_Plc_ok n_Plc hown hK hP hD hS 0 rfl rfl 8 (by decide) (ht _ mw_73) (fun _ h9 => h9) rfl (by decide +kernel) rfl rfl (Nat.le_of_ble_eq_true rfl) d_Plc_forget_52 (fun H locs hP hD hS => ?_)
  have hP : va_P (dC, dI) smC [(pl, .inr (2, [.ref pf, .ref pa, .ref po, .ref pr, .ref ps, .ref pd, .ref ph, .ref pq, .int ((0 : Int32)), .int (nI wr), .int sc])), (po, .inl (cZ, 24, .inl ov)), (pd, .inl (cI, 24, .inl od)), (pf, .inl (cI, 24, .inl (fun _ => ((-2 : Int32))))), (pa, .inl (cI, 24, .inl (fun _ => ((-2 : Int32))))), (pr, .inl (cI, 24, .inl (fun _ => ((-1 : Int32))))), (ps, .inl (cI, 24, .inl (fun _ => ((-1 : Int32))))), (ph, .inl (cI, 8, .inl (fun _ => ((-1 : Int32))))), (pq, .inl (cI, 24, .inl (fun _ => ((-1 : Int32)))))] H := hP
  have hD : va_D A [(pl, .inr (2, [.ref pf, .ref pa, .ref po, .ref pr, .ref ps, .ref pd, .ref ph, .ref pq, .int ((0 : Int32)), .int (nI wr), .int sc])), (po, .inl (cZ, 24, .inl ov)), (pd, .inl (cI, 24, .inl od)), (pf, .inl (cI, 24, .inl (fun _ => ((-2 : Int32))))), (pa, .inl (cI, 24, .inl (fun _ => ((-2 : Int32))))), (pr, .inl (cI, 24, .inl (fun _ => ((-1 : Int32))))), (ps, .inl (cI, 24, .inl (fun _ => ((-1 : Int32))))), (ph, .inl (cI, 8, .inl (fun _ => ((-1 : Int32))))), (pq, .inl (cI, 24, .inl (fun _ => ((-1 : Int32)))))] := hD
  refine lv_aload_n hx hb d_Plc_forget_55 rfl (lv_at hl 0 rfl) ?_
  refine lv_iconst (v := 0) hx hb d_Plc_forget_56 (by decide) ?_
  refine lv_iload_n hx hb d_Plc_forget_57 rfl (lv_at hl 1 rfl) ?_
  refine lv_bipush (v := 8) hx hb d_Plc_forget_58 (by decide) ?_
  refine va_mmin hx hb (by rw [hml]; exact hl.1.symm) hown (ht _ mw_256) (ht _ mw_208) (ht _ mw_8) (ht _ mw_209) (Nat.le_of_ble_eq_true rfl) (Nat.le_of_ble_eq_true rfl) (Nat.zero_le _) (Nat.zero_le _) d_Plc_forget_60 ?_
  refine sm_re (if_neg (nI_nlt (a := 8) (b := w) hw8 (by decide))) ?_
  refine va_mmax hx hb (by rw [hml]; exact hl.1.symm) hown (ht _ mw_257) (ht _ mw_258) (ht _ mw_8) (ht _ mw_259) (Nat.le_of_ble_eq_true rfl) (Nat.le_of_ble_eq_true rfl) (Nat.zero_le _) (Nat.zero_le _) d_Plc_forget_63 ?_
  refine sm_re (if_pos (nI_lt (a := 0) (b := w) (by omega) (by omega))) ?_
  refine va_put (D := (dC, dI)) (ci := 2) (v := .int (nI w)) (ty := .int) (C := R_Plc) (T := T_Plc) (N := 11) hx hb ht i_Plc t_Plc t_Plc_ok n_Plc hown hK hP hD hS 0 rfl rfl 9 (by decide) (ht _ mw_74) (fun _ h9 => h9) rfl (by decide +kernel) rfl rfl (Nat.le_of_ble_eq_true rfl) d_Plc_forget_66 (fun H locs hP hD hS => ?_)
  have hP : va_P (dC, dI) smC [(pl, .inr (2, [.ref pf, .ref pa, .ref po, .ref pr, .ref ps, .ref pd, .ref ph, .ref pq, .int ((0 : Int32)), .int (nI w), .int sc])), (po, .inl (cZ, 24, .inl ov)), (pd, .inl (cI, 24, .inl od)), (pf, .inl (cI, 24, .inl (fun _ => ((-2 : Int32))))), (pa, .inl (cI, 24, .inl (fun _ => ((-2 : Int32))))), (pr, .inl (cI, 24, .inl (fun _ => ((-1 : Int32))))), (ps, .inl (cI, 24, .inl (fun _ => ((-1 : Int32))))), (ph, .inl (cI, 8, .inl (fun _ => ((-1 : Int32))))), (pq, .inl (cI, 24, .inl (fun _ => ((-1 : Int32)))))] H := hP
  have hD : va_D A [(pl, .inr (2, [.ref pf, .ref pa, .ref po, .ref pr, .ref ps, .ref pd, .ref ph, .ref pq, .int ((0 : Int32)), .int (nI w), .int sc])), (po, .inl (cZ, 24, .inl ov)), (pd, .inl (cI, 24, .inl od)), (pf, .inl (cI, 24, .inl (fun _ => ((-2 : Int32))))), (pa, .inl (cI, 24, .inl (fun _ => ((-2 : Int32))))), (pr, .inl (cI, 24, .inl (fun _ => ((-1 : Int32))))), (ps, .inl (cI, 24, .inl (fun _ => ((-1 : Int32))))), (ph, .inl (cI, 8, .inl (fun _ => ((-1 : Int32))))), (pq, .inl (cI, 24, .inl (fun _ => ((-1 : Int32)))))] := hD
  refine lv_aload_n hx hb d_Plc_forget_69 rfl (lv_at hl 0 rfl) ?_
  refine lv_iconst (v := 0) hx hb d_Plc_forget_70 (by decide) ?_
  refine va_put (D := (dC, dI)) (ci := 2) (v := .int ((0 : Int32))) (ty := .int) (C := R_Plc) (T := T_Plc) (N := 11) hx hb ht i_Plc t_Plc t_Plc_ok n_Plc hown hK hP hD hS 0 rfl rfl 10 (by decide) (ht _ mw_75) (fun _ h9 => h9) rfl (by decide +kernel) rfl rfl (Nat.le_of_ble_eq_true rfl) d_Plc_forget_71 (fun H locs hP hD hS => ?_)
  have hP : va_P (dC, dI) smC [(pl, .inr (2, [.ref pf, .ref pa, .ref po, .ref pr, .ref ps, .ref pd, .ref ph, .ref pq, .int ((0 : Int32)), .int (nI w), .int ((0 : Int32))])), (po, .inl (cZ, 24, .inl ov)), (pd, .inl (cI, 24, .inl od)), (pf, .inl (cI, 24, .inl (fun _ => ((-2 : Int32))))), (pa, .inl (cI, 24, .inl (fun _ => ((-2 : Int32))))), (pr, .inl (cI, 24, .inl (fun _ => ((-1 : Int32))))), (ps, .inl (cI, 24, .inl (fun _ => ((-1 : Int32))))), (ph, .inl (cI, 8, .inl (fun _ => ((-1 : Int32))))), (pq, .inl (cI, 24, .inl (fun _ => ((-1 : Int32)))))] H := hP
  have hD : va_D A [(pl, .inr (2, [.ref pf, .ref pa, .ref po, .ref pr, .ref ps, .ref pd, .ref ph, .ref pq, .int ((0 : Int32)), .int (nI w), .int ((0 : Int32))])), (po, .inl (cZ, 24, .inl ov)), (pd, .inl (cI, 24, .inl od)), (pf, .inl (cI, 24, .inl (fun _ => ((-2 : Int32))))), (pa, .inl (cI, 24, .inl (fun _ => ((-2 : Int32))))), (pr, .inl (cI, 24, .inl (fun _ => ((-1 : Int32))))), (ps, .inl (cI, 24, .inl (fun _ => ((-1 : Int32))))), (ph, .inl (cI, 8, .inl (fun _ => ((-1 : Int32))))), (pq, .inl (cI, 24, .inl (fun _ => ((-1 : Int32)))))] := hD
  refine sm_rv (ws := [(pl, .inr (2, [.ref pf, .ref pa, .ref po, .ref pr, .ref ps, .ref pd, .ref ph, .ref pq, .int ((0 : Int32)), .int (nI w), .int ((0 : Int32))])), (pf, .inl (cI, 24, .inl (fun _ => ((-2 : Int32))))), (pa, .inl (cI, 24, .inl (fun _ => ((-2 : Int32))))), (po, .inl (cZ, 24, .inl ov)), (pr, .inl (cI, 24, .inl (fun _ => ((-1 : Int32))))), (ps, .inl (cI, 24, .inl (fun _ => ((-1 : Int32))))), (pd, .inl (cI, 24, .inl od)), (ph, .inl (cI, 8, .inl (fun _ => ((-1 : Int32))))), (pq, .inl (cI, 24, .inl (fun _ => ((-1 : Int32)))))]) hx hb hr hlocks hK (hP.sub [0, 3, 4, 1, 5, 6, 2, 7, 8] rfl) (hD.sub [0, 3, 4, 1, 5, 6, 2, 7, 8] (by decide) rfl) hS ?_ d_Plc_forget_74
  rfl
abbrev y_Plc_assign : MethodName := ⟨"ScanMill$Places", "assign", "(LScanMill$Row;LScanMill$Liveness;I)V"⟩
theorem d_Plc_assign_0 : decode prog_4_method_2_code 0 = .ok (.aload_n 0, 1) := by decide +kernel
theorem d_Plc_assign_1 : decode prog_4_method_2_code 1 = .ok (.iload_n 3, 1) := by decide +kernel
theorem d_Plc_assign_2 : decode prog_4_method_2_code 2 = .ok (.invokevirtual 47, 3) := by decide +kernel
theorem mw_254 : Cond.code ⟨"ScanMill$Places", "forget", "(I)V"⟩ prog_4_method_13_code 2 (Option.none : Option FieldType) ∈ wG := wG_t 254 (by decide +kernel) (by decide +kernel)
theorem mw_251 : Cond.methodLink "ScanMill$Places" 47 ⟨"ScanMill$Places", "forget", "(I)V"⟩ ∈ wG := wG_t 251 (by decide +kernel) (by decide +kernel)
theorem mw_253 : Cond.instanceMethod ⟨"ScanMill$Places", "forget", "(I)V"⟩ ∈ wG := wG_t 253 (by decide +kernel) (by decide +kernel)
theorem mp_5 : Cond.selects "ScanMill$Places" ⟨"ScanMill$Places", "forget", "(I)V"⟩ ⟨"ScanMill$Places", "forget", "(I)V"⟩ ∈ wG := wG_p 5 (by decide +kernel) (by decide +kernel)
theorem d_Plc_assign_5 : decode prog_4_method_2_code 5 = .ok (.aload_n 0, 1) := by decide +kernel
theorem d_Plc_assign_6 : decode prog_4_method_2_code 6 = .ok (.aload_n 1, 1) := by decide +kernel
theorem d_Plc_assign_7 : decode prog_4_method_2_code 7 = .ok (.aload_n 2, 1) := by decide +kernel
theorem d_Plc_assign_8 : decode prog_4_method_2_code 8 = .ok (.invokevirtual 51, 3) := by decide +kernel
theorem mw_263 : Cond.code ⟨"ScanMill$Places", "findTimes", "(LScanMill$Row;LScanMill$Liveness;)V"⟩ prog_4_method_14_code 5 (Option.none : Option FieldType) ∈ wG := wG_t 263 (by decide +kernel) (by decide +kernel)
theorem mw_260 : Cond.methodLink "ScanMill$Places" 51 ⟨"ScanMill$Places", "findTimes", "(LScanMill$Row;LScanMill$Liveness;)V"⟩ ∈ wG := wG_t 260 (by decide +kernel) (by decide +kernel)
theorem mw_262 : Cond.instanceMethod ⟨"ScanMill$Places", "findTimes", "(LScanMill$Row;LScanMill$Liveness;)V"⟩ ∈ wG := wG_t 262 (by decide +kernel) (by decide +kernel)
theorem mp_6 : Cond.selects "ScanMill$Places" ⟨"ScanMill$Places", "findTimes", "(LScanMill$Row;LScanMill$Liveness;)V"⟩ ⟨"ScanMill$Places", "findTimes", "(LScanMill$Row;LScanMill$Liveness;)V"⟩ ∈ wG := wG_p 6 (by decide +kernel) (by decide +kernel)
theorem d_Plc_assign_11 : decode prog_4_method_2_code 11 = .ok (.aload_n 0, 1) := by decide +kernel
theorem d_Plc_assign_12 : decode prog_4_method_2_code 12 = .ok (.aload_n 1, 1) := by decide +kernel
theorem d_Plc_assign_13 : decode prog_4_method_2_code 13 = .ok (.invokevirtual 55, 3) := by decide +kernel
theorem mw_278 : Cond.code ⟨"ScanMill$Places", "findOverCall", "(LScanMill$Row;)V"⟩ prog_4_method_16_code 4 (Option.none : Option FieldType) ∈ wG := wG_t 278 (by decide +kernel) (by decide +kernel)
theorem mw_275 : Cond.methodLink "ScanMill$Places" 55 ⟨"ScanMill$Places", "findOverCall", "(LScanMill$Row;)V"⟩ ∈ wG := wG_t 275 (by decide +kernel) (by decide +kernel)
theorem mw_277 : Cond.instanceMethod ⟨"ScanMill$Places", "findOverCall", "(LScanMill$Row;)V"⟩ ∈ wG := wG_t 277 (by decide +kernel) (by decide +kernel)
theorem mp_8 : Cond.selects "ScanMill$Places" ⟨"ScanMill$Places", "findOverCall", "(LScanMill$Row;)V"⟩ ⟨"ScanMill$Places", "findOverCall", "(LScanMill$Row;)V"⟩ ∈ wG := wG_p 8 (by decide +kernel) (by decide +kernel)
theorem d_Plc_assign_16 : decode prog_4_method_2_code 16 = .ok (.aload_n 0, 1) := by decide +kernel
theorem d_Plc_assign_17 : decode prog_4_method_2_code 17 = .ok (.invokevirtual 59, 3) := by decide +kernel
theorem mw_287 : Cond.code ⟨"ScanMill$Places", "orderByFirst", "()V"⟩ prog_4_method_17_code 3 (Option.none : Option FieldType) ∈ wG := wG_t 287 (by decide +kernel) (by decide +kernel)
theorem mw_284 : Cond.methodLink "ScanMill$Places" 59 ⟨"ScanMill$Places", "orderByFirst", "()V"⟩ ∈ wG := wG_t 284 (by decide +kernel) (by decide +kernel)
theorem mw_286 : Cond.instanceMethod ⟨"ScanMill$Places", "orderByFirst", "()V"⟩ ∈ wG := wG_t 286 (by decide +kernel) (by decide +kernel)
theorem mp_9 : Cond.selects "ScanMill$Places" ⟨"ScanMill$Places", "orderByFirst", "()V"⟩ ⟨"ScanMill$Places", "orderByFirst", "()V"⟩ ∈ wG := wG_p 9 (by decide +kernel) (by decide +kernel)
theorem d_Plc_assign_20 : decode prog_4_method_2_code 20 = .ok (.aload_n 0, 1) := by decide +kernel
theorem d_Plc_assign_21 : decode prog_4_method_2_code 21 = .ok (.invokevirtual 62, 3) := by decide +kernel
theorem mw_295 : Cond.code ⟨"ScanMill$Places", "giveRegisters", "()V"⟩ prog_4_method_18_code 3 (Option.none : Option FieldType) ∈ wG := wG_t 295 (by decide +kernel) (by decide +kernel)
theorem mw_292 : Cond.methodLink "ScanMill$Places" 62 ⟨"ScanMill$Places", "giveRegisters", "()V"⟩ ∈ wG := wG_t 292 (by decide +kernel) (by decide +kernel)
theorem mw_294 : Cond.instanceMethod ⟨"ScanMill$Places", "giveRegisters", "()V"⟩ ∈ wG := wG_t 294 (by decide +kernel) (by decide +kernel)
theorem mp_10 : Cond.selects "ScanMill$Places" ⟨"ScanMill$Places", "giveRegisters", "()V"⟩ ⟨"ScanMill$Places", "giveRegisters", "()V"⟩ ∈ wG := wG_p 10 (by decide +kernel) (by decide +kernel)
theorem d_Plc_assign_24 : decode prog_4_method_2_code 24 = .ok (.aload_n 0, 1) := by decide +kernel
theorem d_Plc_assign_25 : decode prog_4_method_2_code 25 = .ok (.invokevirtual 65, 3) := by decide +kernel
theorem mw_323 : Cond.code ⟨"ScanMill$Places", "giveSlots", "()V"⟩ prog_4_method_22_code 3 (Option.none : Option FieldType) ∈ wG := wG_t 323 (by decide +kernel) (by decide +kernel)
theorem mw_320 : Cond.methodLink "ScanMill$Places" 65 ⟨"ScanMill$Places", "giveSlots", "()V"⟩ ∈ wG := wG_t 320 (by decide +kernel) (by decide +kernel)
theorem mw_322 : Cond.instanceMethod ⟨"ScanMill$Places", "giveSlots", "()V"⟩ ∈ wG := wG_t 322 (by decide +kernel) (by decide +kernel)
theorem mp_15 : Cond.selects "ScanMill$Places" ⟨"ScanMill$Places", "giveSlots", "()V"⟩ ⟨"ScanMill$Places", "giveSlots", "()V"⟩ ∈ wG := wG_p 15 (by decide +kernel) (by decide +kernel)
theorem d_Plc_assign_28 : decode prog_4_method_2_code 28 = .ok (.return_, 1) := by decide +kernel
set_option maxRecDepth 100000 in
set_option maxHeartbeats 4000000 in
theorem c_Plc_assign {l : Launch} {dC : Nat → ClassId} {dI : Nat → Nat → Nat} {cI cZ : ClassId} {pl pf pa po pr ps pd ph pq wo wr : Nat} {fi la ov rg sl od rh sh : Nat → Int32} {sc : Int32} {r rk ra rb rc n : Nat} {fk fa fb fc : Nat → Int32} {lv lf : Nat} {ff : Nat → Int32} {stl : Int32} {w : Nat} (hn : n ≤ 60) (hw1 : 1 ≤ w) (hw8 : w ≤ 8) : sm_V l y_Plc_assign prog_4_method_2_code 4 none (rmF 5 111) (dC, dI) smC [(cI, .int), (cZ, .boolean)] [.ref pl, .ref r, .ref lv, .int (nI w)] [(pl, .inr (2, [.ref pf, .ref pa, .ref po, .ref pr, .ref ps, .ref pd, .ref ph, .ref pq, .int (nI wo), .int (nI wr), .int sc])), (pf, .inl (cI, 24, .inl fi)), (pa, .inl (cI, 24, .inl la)), (po, .inl (cZ, 24, .inl ov)), (pr, .inl (cI, 24, .inl rg)), (ps, .inl (cI, 24, .inl sl)), (pd, .inl (cI, 24, .inl od)), (ph, .inl (cI, 8, .inl rh)), (pq, .inl (cI, 24, .inl sh)), (r, .inr (0, [.ref rk, .ref ra, .ref rb, .ref rc, .int (nI n)])), (rk, .inl (cI, 60, .inl fk)), (ra, .inl (cI, 60, .inl fa)), (rb, .inl (cI, 60, .inl fb)), (rc, .inl (cI, 60, .inl fc)), (lv, .inr (1, [.ref lf, .int stl])), (lf, .inl (cI, 61, .inl ff))] (fun w2 => w2 = [(pl, .inr (2, [.ref pf, .ref pa, .ref po, .ref pr, .ref ps, .ref pd, .ref ph, .ref pq, .int (nI (scWo n fk fa ff od)), .int (nI w), .int (scSc n fk fa ff ov od w)])), (pf, .inl (cI, 24, .inl (scFi n fk fa ff))), (pa, .inl (cI, 24, .inl (scLa n fk fa ff))), (po, .inl (cZ, 24, .inl (scOv n fk fa ff ov))), (pr, .inl (cI, 24, .inl (scRg n fk fa ff ov od w))), (ps, .inl (cI, 24, .inl (scSl n fk fa ff ov od w))), (pd, .inl (cI, 24, .inl (scOd n fk fa ff od))), (ph, .inl (cI, 8, .inl (scRh n fk fa ff ov od w))), (pq, .inl (cI, 24, .inl (scSh n fk fa ff ov od w))), (r, .inr (0, [.ref rk, .ref ra, .ref rb, .ref rc, .int (nI n)])), (rk, .inl (cI, 60, .inl fk)), (ra, .inl (cI, 60, .inl fa)), (rb, .inl (cI, 60, .inl fb)), (rc, .inl (cI, 60, .inl fc)), (lv, .inr (1, [.ref lf, .int stl])), (lf, .inl (cI, 61, .inl ff))]) := by
  refine sm_V.mk (by decide) (Nat.le_of_ble_eq_true rfl) ?_
  intro p e s m below meth c A H locs ls hx hb hr ht hown hlocks hml hnm hP hK hD hA hS hN hl
  have hl : lv_has ls 4 [(0, .ref pl), (1, .ref r), (2, .ref lv), (3, .int (nI w))] := hl
  refine lv_aload_n hx hb d_Plc_assign_0 rfl (lv_at hl 0 rfl) ?_
  refine lv_iload_n hx hb d_Plc_assign_1 rfl (lv_at hl 3 rfl) ?_
  refine sm_gov (wc := [(pl, .inr (2, [.ref pf, .ref pa, .ref po, .ref pr, .ref ps, .ref pd, .ref ph, .ref pq, .int (nI wo), .int (nI wr), .int sc])), (pf, .inl (cI, 24, .inl fi)), (pa, .inl (cI, 24, .inl la)), (po, .inl (cZ, 24, .inl ov)), (pr, .inl (cI, 24, .inl rg)), (ps, .inl (cI, 24, .inl sl)), (pd, .inl (cI, 24, .inl od)), (ph, .inl (cI, 8, .inl rh)), (pq, .inl (cI, 24, .inl sh))]) (wr := [(r, .inr (0, [.ref rk, .ref ra, .ref rb, .ref rc, .int (nI n)])), (rk, .inl (cI, 60, .inl fk)), (ra, .inl (cI, 60, .inl fa)), (rb, .inl (cI, 60, .inl fb)), (rc, .inl (cI, 60, .inl fc)), (lv, .inr (1, [.ref lf, .int stl])), (lf, .inl (cI, 61, .inl ff))]) (va_runV (As := [.int (nI w)]) (rest := []) ⟨hx, hb, hml, hown, ht⟩ ((c_Plc_forget (l := l) (dC := dC) (dI := dI) (cI := cI) (cZ := cZ) (pl := pl) (pf := pf) (pa := pa) (po := po) (pr := pr) (ps := ps) (pd := pd) (ph := ph) (pq := pq) (wo := wo) (wr := wr) (fi := fi) (la := la) (ov := ov) (rg := rg) (sl := sl) (od := od) (rh := rh) (sh := sh) (sc := sc) (w := w) (by first | assumption | omega) (by first | assumption | omega)).at H.size) (sm_cV 1 ht mw_254 mw_4 mw_251 mw_253 mp_5 rfl rfl (by decide +kernel) ⟨Nat.le_of_ble_eq_true rfl, Nat.le_of_ble_eq_true rfl⟩) (sm_preV (ci := 2) hN hK hP hD [0, 1, 2, 3, 4, 5, 6, 7, 8] rfl rfl (by decide) 0 rfl rfl) rfl rfl hl.1 rfl (lv_room (Nat.le_of_ble_eq_true rfl)) d_Plc_assign_2 ⟨Nat.zero_le _, Nat.zero_le _⟩) hP hD hS hA [0, 1, 2, 3, 4, 5, 6, 7, 8] [9, 10, 11, 12, 13, 14, 15] rfl rfl (by decide) (by decide) (fun w_2 H locs q_2 hP hD hS => ?_)
  obtain rfl := q_2
  have hP : va_P (dC, dI) smC [(r, .inr (0, [.ref rk, .ref ra, .ref rb, .ref rc, .int (nI n)])), (rk, .inl (cI, 60, .inl fk)), (ra, .inl (cI, 60, .inl fa)), (rb, .inl (cI, 60, .inl fb)), (rc, .inl (cI, 60, .inl fc)), (lv, .inr (1, [.ref lf, .int stl])), (lf, .inl (cI, 61, .inl ff)), (pl, .inr (2, [.ref pf, .ref pa, .ref po, .ref pr, .ref ps, .ref pd, .ref ph, .ref pq, .int ((0 : Int32)), .int (nI w), .int ((0 : Int32))])), (pf, .inl (cI, 24, .inl ((fun _ => (-2 : Int32))))), (pa, .inl (cI, 24, .inl ((fun _ => (-2 : Int32))))), (po, .inl (cZ, 24, .inl ov)), (pr, .inl (cI, 24, .inl ((fun _ => (-1 : Int32))))), (ps, .inl (cI, 24, .inl ((fun _ => (-1 : Int32))))), (pd, .inl (cI, 24, .inl od)), (ph, .inl (cI, 8, .inl ((fun _ => (-1 : Int32))))), (pq, .inl (cI, 24, .inl ((fun _ => (-1 : Int32)))))] H := hP
  have hD : va_D A [(r, .inr (0, [.ref rk, .ref ra, .ref rb, .ref rc, .int (nI n)])), (rk, .inl (cI, 60, .inl fk)), (ra, .inl (cI, 60, .inl fa)), (rb, .inl (cI, 60, .inl fb)), (rc, .inl (cI, 60, .inl fc)), (lv, .inr (1, [.ref lf, .int stl])), (lf, .inl (cI, 61, .inl ff)), (pl, .inr (2, [.ref pf, .ref pa, .ref po, .ref pr, .ref ps, .ref pd, .ref ph, .ref pq, .int ((0 : Int32)), .int (nI w), .int ((0 : Int32))])), (pf, .inl (cI, 24, .inl ((fun _ => (-2 : Int32))))), (pa, .inl (cI, 24, .inl ((fun _ => (-2 : Int32))))), (po, .inl (cZ, 24, .inl ov)), (pr, .inl (cI, 24, .inl ((fun _ => (-1 : Int32))))), (ps, .inl (cI, 24, .inl ((fun _ => (-1 : Int32))))), (pd, .inl (cI, 24, .inl od)), (ph, .inl (cI, 8, .inl ((fun _ => (-1 : Int32))))), (pq, .inl (cI, 24, .inl ((fun _ => (-1 : Int32)))))] := hD
  refine lv_aload_n hx hb d_Plc_assign_5 rfl (lv_at hl 0 rfl) ?_
  refine lv_aload_n hx hb d_Plc_assign_6 rfl (lv_at hl 1 rfl) ?_
  refine lv_aload_n hx hb d_Plc_assign_7 rfl (lv_at hl 2 rfl) ?_
  refine sm_gov (wc := [(pl, .inr (2, [.ref pf, .ref pa, .ref po, .ref pr, .ref ps, .ref pd, .ref ph, .ref pq, .int ((0 : Int32)), .int (nI w), .int ((0 : Int32))])), (pf, .inl (cI, 24, .inl ((fun _ => (-2 : Int32))))), (pa, .inl (cI, 24, .inl ((fun _ => (-2 : Int32))))), (po, .inl (cZ, 24, .inl ov)), (pr, .inl (cI, 24, .inl ((fun _ => (-1 : Int32))))), (ps, .inl (cI, 24, .inl ((fun _ => (-1 : Int32))))), (pd, .inl (cI, 24, .inl od)), (ph, .inl (cI, 8, .inl ((fun _ => (-1 : Int32))))), (pq, .inl (cI, 24, .inl ((fun _ => (-1 : Int32))))), (r, .inr (0, [.ref rk, .ref ra, .ref rb, .ref rc, .int (nI n)])), (rk, .inl (cI, 60, .inl fk)), (ra, .inl (cI, 60, .inl fa)), (rb, .inl (cI, 60, .inl fb)), (rc, .inl (cI, 60, .inl fc)), (lv, .inr (1, [.ref lf, .int stl])), (lf, .inl (cI, 61, .inl ff))]) (wr := []) (va_runV (As := [.ref r, .ref lv]) (rest := []) ⟨hx, hb, hml, hown, ht⟩ ((c_Plc_findTimes (l := l) (dC := dC) (dI := dI) (cI := cI) (cZ := cZ) (pl := pl) (pf := pf) (pa := pa) (po := po) (pr := pr) (ps := ps) (pd := pd) (ph := ph) (pq := pq) (wo := 0) (wr := w) (fi := (fun _ => (-2 : Int32))) (la := (fun _ => (-2 : Int32))) (ov := ov) (rg := (fun _ => (-1 : Int32))) (sl := (fun _ => (-1 : Int32))) (od := od) (rh := (fun _ => (-1 : Int32))) (sh := (fun _ => (-1 : Int32))) (sc := (0 : Int32)) (r := r) (rk := rk) (ra := ra) (rb := rb) (rc := rc) (n := n) (fk := fk) (fa := fa) (fb := fb) (fc := fc) (lv := lv) (lf := lf) (ff := ff) (stl := stl) (by first | assumption | omega)).at H.size) (sm_cV 2 ht mw_263 mw_4 mw_260 mw_262 mp_6 rfl rfl (by decide +kernel) ⟨Nat.le_of_ble_eq_true rfl, Nat.le_of_ble_eq_true rfl⟩) (sm_preV (ci := 2) hN hK hP hD [7, 8, 9, 10, 11, 12, 13, 14, 15, 0, 1, 2, 3, 4, 5, 6] rfl rfl (by decide) 7 rfl rfl) rfl rfl hl.1 rfl (lv_room (Nat.le_of_ble_eq_true rfl)) d_Plc_assign_8 ⟨Nat.zero_le _, Nat.zero_le _⟩) hP hD hS hA [7, 8, 9, 10, 11, 12, 13, 14, 15, 0, 1, 2, 3, 4, 5, 6] [] rfl rfl (by decide) (by decide) (fun w_8 H locs q_8 hP hD hS => ?_)
  obtain rfl := q_8
  have hP : va_P (dC, dI) smC [(pl, .inr (2, [.ref pf, .ref pa, .ref po, .ref pr, .ref ps, .ref pd, .ref ph, .ref pq, .int (nI 0), .int (nI w), .int ((0 : Int32))])), (pf, .inl (cI, 24, .inl ((ftO n fk fa ff 24 0 ((fun _ => (-2 : Int32))) ((fun _ => (-2 : Int32)))).1))), (pa, .inl (cI, 24, .inl ((ftO n fk fa ff 24 0 ((fun _ => (-2 : Int32))) ((fun _ => (-2 : Int32)))).2))), (po, .inl (cZ, 24, .inl ov)), (pr, .inl (cI, 24, .inl (((fun _ => (-1 : Int32)))))), (ps, .inl (cI, 24, .inl (((fun _ => (-1 : Int32)))))), (pd, .inl (cI, 24, .inl od)), (ph, .inl (cI, 8, .inl (((fun _ => (-1 : Int32)))))), (pq, .inl (cI, 24, .inl (((fun _ => (-1 : Int32)))))), (r, .inr (0, [.ref rk, .ref ra, .ref rb, .ref rc, .int (nI n)])), (rk, .inl (cI, 60, .inl fk)), (ra, .inl (cI, 60, .inl fa)), (rb, .inl (cI, 60, .inl fb)), (rc, .inl (cI, 60, .inl fc)), (lv, .inr (1, [.ref lf, .int stl])), (lf, .inl (cI, 61, .inl ff))] H := hP
  have hD : va_D A [(pl, .inr (2, [.ref pf, .ref pa, .ref po, .ref pr, .ref ps, .ref pd, .ref ph, .ref pq, .int (nI 0), .int (nI w), .int ((0 : Int32))])), (pf, .inl (cI, 24, .inl ((ftO n fk fa ff 24 0 ((fun _ => (-2 : Int32))) ((fun _ => (-2 : Int32)))).1))), (pa, .inl (cI, 24, .inl ((ftO n fk fa ff 24 0 ((fun _ => (-2 : Int32))) ((fun _ => (-2 : Int32)))).2))), (po, .inl (cZ, 24, .inl ov)), (pr, .inl (cI, 24, .inl (((fun _ => (-1 : Int32)))))), (ps, .inl (cI, 24, .inl (((fun _ => (-1 : Int32)))))), (pd, .inl (cI, 24, .inl od)), (ph, .inl (cI, 8, .inl (((fun _ => (-1 : Int32)))))), (pq, .inl (cI, 24, .inl (((fun _ => (-1 : Int32)))))), (r, .inr (0, [.ref rk, .ref ra, .ref rb, .ref rc, .int (nI n)])), (rk, .inl (cI, 60, .inl fk)), (ra, .inl (cI, 60, .inl fa)), (rb, .inl (cI, 60, .inl fb)), (rc, .inl (cI, 60, .inl fc)), (lv, .inr (1, [.ref lf, .int stl])), (lf, .inl (cI, 61, .inl ff))] := hD
  refine lv_aload_n hx hb d_Plc_assign_11 rfl (lv_at hl 0 rfl) ?_
  refine lv_aload_n hx hb d_Plc_assign_12 rfl (lv_at hl 1 rfl) ?_
  refine sm_gov (wc := [(pl, .inr (2, [.ref pf, .ref pa, .ref po, .ref pr, .ref ps, .ref pd, .ref ph, .ref pq, .int (nI 0), .int (nI w), .int ((0 : Int32))])), (pf, .inl (cI, 24, .inl ((ftO n fk fa ff 24 0 ((fun _ => (-2 : Int32))) ((fun _ => (-2 : Int32)))).1))), (pa, .inl (cI, 24, .inl ((ftO n fk fa ff 24 0 ((fun _ => (-2 : Int32))) ((fun _ => (-2 : Int32)))).2))), (po, .inl (cZ, 24, .inl ov)), (pr, .inl (cI, 24, .inl (((fun _ => (-1 : Int32)))))), (ps, .inl (cI, 24, .inl (((fun _ => (-1 : Int32)))))), (pd, .inl (cI, 24, .inl od)), (ph, .inl (cI, 8, .inl (((fun _ => (-1 : Int32)))))), (pq, .inl (cI, 24, .inl (((fun _ => (-1 : Int32)))))), (r, .inr (0, [.ref rk, .ref ra, .ref rb, .ref rc, .int (nI n)])), (rk, .inl (cI, 60, .inl fk)), (ra, .inl (cI, 60, .inl fa)), (rb, .inl (cI, 60, .inl fb)), (rc, .inl (cI, 60, .inl fc))]) (wr := [(lv, .inr (1, [.ref lf, .int stl])), (lf, .inl (cI, 61, .inl ff))]) (va_runV (As := [.ref r]) (rest := []) ⟨hx, hb, hml, hown, ht⟩ ((c_Plc_findOverCall (l := l) (dC := dC) (dI := dI) (cI := cI) (cZ := cZ) (pl := pl) (pf := pf) (pa := pa) (po := po) (pr := pr) (ps := ps) (pd := pd) (ph := ph) (pq := pq) (wo := 0) (wr := w) (fi := (ftO n fk fa ff 24 0 ((fun _ => (-2 : Int32))) ((fun _ => (-2 : Int32)))).1) (la := (ftO n fk fa ff 24 0 ((fun _ => (-2 : Int32))) ((fun _ => (-2 : Int32)))).2) (ov := ov) (rg := ((fun _ => (-1 : Int32)))) (sl := ((fun _ => (-1 : Int32)))) (od := od) (rh := ((fun _ => (-1 : Int32)))) (sh := ((fun _ => (-1 : Int32)))) (sc := (0 : Int32)) (r := r) (rk := rk) (ra := ra) (rb := rb) (rc := rc) (n := n) (fk := fk) (fa := fa) (fb := fb) (fc := fc) (by first | assumption | omega)).at H.size) (sm_cV 1 ht mw_278 mw_4 mw_275 mw_277 mp_8 rfl rfl (by decide +kernel) ⟨Nat.le_of_ble_eq_true rfl, Nat.le_of_ble_eq_true rfl⟩) (sm_preV (ci := 2) hN hK hP hD [0, 1, 2, 3, 4, 5, 6, 7, 8, 9, 10, 11, 12, 13] rfl rfl (by decide) 0 rfl rfl) rfl rfl hl.1 rfl (lv_room (Nat.le_of_ble_eq_true rfl)) d_Plc_assign_13 ⟨Nat.zero_le _, Nat.zero_le _⟩) hP hD hS hA [0, 1, 2, 3, 4, 5, 6, 7, 8, 9, 10, 11, 12, 13] [14, 15] rfl rfl (by decide) (by decide) (fun w_13 H locs q_13 hP hD hS => ?_)
  obtain rfl := q_13
  have hP : va_P (dC, dI) smC [(lv, .inr (1, [.ref lf, .int stl])), (lf, .inl (cI, 61, .inl ff)), (pl, .inr (2, [.ref pf, .ref pa, .ref po, .ref pr, .ref ps, .ref pd, .ref ph, .ref pq, .int (nI 0), .int (nI w), .int ((0 : Int32))])), (pf, .inl (cI, 24, .inl (((ftO n fk fa ff 24 0 ((fun _ => (-2 : Int32))) ((fun _ => (-2 : Int32)))).1)))), (pa, .inl (cI, 24, .inl (((ftO n fk fa ff 24 0 ((fun _ => (-2 : Int32))) ((fun _ => (-2 : Int32)))).2)))), (po, .inl (cZ, 24, .inl (ocO n fk ((ftO n fk fa ff 24 0 ((fun _ => (-2 : Int32))) ((fun _ => (-2 : Int32)))).1) ((ftO n fk fa ff 24 0 ((fun _ => (-2 : Int32))) ((fun _ => (-2 : Int32)))).2) 24 0 ov))), (pr, .inl (cI, 24, .inl ((((fun _ => (-1 : Int32))))))), (ps, .inl (cI, 24, .inl ((((fun _ => (-1 : Int32))))))), (pd, .inl (cI, 24, .inl od)), (ph, .inl (cI, 8, .inl ((((fun _ => (-1 : Int32))))))), (pq, .inl (cI, 24, .inl ((((fun _ => (-1 : Int32))))))), (r, .inr (0, [.ref rk, .ref ra, .ref rb, .ref rc, .int (nI n)])), (rk, .inl (cI, 60, .inl fk)), (ra, .inl (cI, 60, .inl fa)), (rb, .inl (cI, 60, .inl fb)), (rc, .inl (cI, 60, .inl fc))] H := hP
  have hD : va_D A [(lv, .inr (1, [.ref lf, .int stl])), (lf, .inl (cI, 61, .inl ff)), (pl, .inr (2, [.ref pf, .ref pa, .ref po, .ref pr, .ref ps, .ref pd, .ref ph, .ref pq, .int (nI 0), .int (nI w), .int ((0 : Int32))])), (pf, .inl (cI, 24, .inl (((ftO n fk fa ff 24 0 ((fun _ => (-2 : Int32))) ((fun _ => (-2 : Int32)))).1)))), (pa, .inl (cI, 24, .inl (((ftO n fk fa ff 24 0 ((fun _ => (-2 : Int32))) ((fun _ => (-2 : Int32)))).2)))), (po, .inl (cZ, 24, .inl (ocO n fk ((ftO n fk fa ff 24 0 ((fun _ => (-2 : Int32))) ((fun _ => (-2 : Int32)))).1) ((ftO n fk fa ff 24 0 ((fun _ => (-2 : Int32))) ((fun _ => (-2 : Int32)))).2) 24 0 ov))), (pr, .inl (cI, 24, .inl ((((fun _ => (-1 : Int32))))))), (ps, .inl (cI, 24, .inl ((((fun _ => (-1 : Int32))))))), (pd, .inl (cI, 24, .inl od)), (ph, .inl (cI, 8, .inl ((((fun _ => (-1 : Int32))))))), (pq, .inl (cI, 24, .inl ((((fun _ => (-1 : Int32))))))), (r, .inr (0, [.ref rk, .ref ra, .ref rb, .ref rc, .int (nI n)])), (rk, .inl (cI, 60, .inl fk)), (ra, .inl (cI, 60, .inl fa)), (rb, .inl (cI, 60, .inl fb)), (rc, .inl (cI, 60, .inl fc))] := hD
  refine lv_aload_n hx hb d_Plc_assign_16 rfl (lv_at hl 0 rfl) ?_
  refine sm_gov (wc := [(pl, .inr (2, [.ref pf, .ref pa, .ref po, .ref pr, .ref ps, .ref pd, .ref ph, .ref pq, .int (nI 0), .int (nI w), .int ((0 : Int32))])), (pf, .inl (cI, 24, .inl (((ftO n fk fa ff 24 0 ((fun _ => (-2 : Int32))) ((fun _ => (-2 : Int32)))).1)))), (pa, .inl (cI, 24, .inl (((ftO n fk fa ff 24 0 ((fun _ => (-2 : Int32))) ((fun _ => (-2 : Int32)))).2)))), (po, .inl (cZ, 24, .inl (ocO n fk ((ftO n fk fa ff 24 0 ((fun _ => (-2 : Int32))) ((fun _ => (-2 : Int32)))).1) ((ftO n fk fa ff 24 0 ((fun _ => (-2 : Int32))) ((fun _ => (-2 : Int32)))).2) 24 0 ov))), (pr, .inl (cI, 24, .inl ((((fun _ => (-1 : Int32))))))), (ps, .inl (cI, 24, .inl ((((fun _ => (-1 : Int32))))))), (pd, .inl (cI, 24, .inl od)), (ph, .inl (cI, 8, .inl ((((fun _ => (-1 : Int32))))))), (pq, .inl (cI, 24, .inl ((((fun _ => (-1 : Int32)))))))]) (wr := [(lv, .inr (1, [.ref lf, .int stl])), (lf, .inl (cI, 61, .inl ff)), (r, .inr (0, [.ref rk, .ref ra, .ref rb, .ref rc, .int (nI n)])), (rk, .inl (cI, 60, .inl fk)), (ra, .inl (cI, 60, .inl fa)), (rb, .inl (cI, 60, .inl fb)), (rc, .inl (cI, 60, .inl fc))]) (va_runV (As := []) (rest := []) ⟨hx, hb, hml, hown, ht⟩ ((c_Plc_orderByFirst (l := l) (dC := dC) (dI := dI) (cI := cI) (cZ := cZ) (pl := pl) (pf := pf) (pa := pa) (po := po) (pr := pr) (ps := ps) (pd := pd) (ph := ph) (pq := pq) (wr := w) (fi := ((ftO n fk fa ff 24 0 ((fun _ => (-2 : Int32))) ((fun _ => (-2 : Int32)))).1)) (la := ((ftO n fk fa ff 24 0 ((fun _ => (-2 : Int32))) ((fun _ => (-2 : Int32)))).2)) (ov := ocO n fk ((ftO n fk fa ff 24 0 ((fun _ => (-2 : Int32))) ((fun _ => (-2 : Int32)))).1) ((ftO n fk fa ff 24 0 ((fun _ => (-2 : Int32))) ((fun _ => (-2 : Int32)))).2) 24 0 ov) (rg := (((fun _ => (-1 : Int32))))) (sl := (((fun _ => (-1 : Int32))))) (od := od) (rh := (((fun _ => (-1 : Int32))))) (sh := (((fun _ => (-1 : Int32))))) (sc := (0 : Int32)) ).at H.size) (sm_cV 0 ht mw_287 mw_4 mw_284 mw_286 mp_9 rfl rfl (by decide +kernel) ⟨Nat.le_of_ble_eq_true rfl, Nat.le_of_ble_eq_true rfl⟩) (sm_preV (ci := 2) hN hK hP hD [2, 3, 4, 5, 6, 7, 8, 9, 10] rfl rfl (by decide) 2 rfl rfl) rfl rfl hl.1 rfl (lv_room (Nat.le_of_ble_eq_true rfl)) d_Plc_assign_17 ⟨Nat.zero_le _, Nat.zero_le _⟩) hP hD hS hA [2, 3, 4, 5, 6, 7, 8, 9, 10] [0, 1, 11, 12, 13, 14, 15] rfl rfl (by decide) (by decide) (fun w_17 H locs q_17 hP hD hS => ?_)
  obtain rfl := q_17
  have hP : va_P (dC, dI) smC [(lv, .inr (1, [.ref lf, .int stl])), (lf, .inl (cI, 61, .inl ff)), (r, .inr (0, [.ref rk, .ref ra, .ref rb, .ref rc, .int (nI n)])), (rk, .inl (cI, 60, .inl fk)), (ra, .inl (cI, 60, .inl fa)), (rb, .inl (cI, 60, .inl fb)), (rc, .inl (cI, 60, .inl fc)), (pl, .inr (2, [.ref pf, .ref pa, .ref po, .ref pr, .ref ps, .ref pd, .ref ph, .ref pq, .int (nI ((odO (((ftO n fk fa ff 24 0 ((fun _ => (-2 : Int32))) ((fun _ => (-2 : Int32)))).1)) (((ftO n fk fa ff 24 0 ((fun _ => (-2 : Int32))) ((fun _ => (-2 : Int32)))).2)) 24 0 0 od).1)), .int (nI w), .int ((0 : Int32))])), (pf, .inl (cI, 24, .inl ((((ftO n fk fa ff 24 0 ((fun _ => (-2 : Int32))) ((fun _ => (-2 : Int32)))).1))))), (pa, .inl (cI, 24, .inl ((((ftO n fk fa ff 24 0 ((fun _ => (-2 : Int32))) ((fun _ => (-2 : Int32)))).2))))), (po, .inl (cZ, 24, .inl ((ocO n fk ((ftO n fk fa ff 24 0 ((fun _ => (-2 : Int32))) ((fun _ => (-2 : Int32)))).1) ((ftO n fk fa ff 24 0 ((fun _ => (-2 : Int32))) ((fun _ => (-2 : Int32)))).2) 24 0 ov)))), (pr, .inl (cI, 24, .inl (((((fun _ => (-1 : Int32)))))))), (ps, .inl (cI, 24, .inl (((((fun _ => (-1 : Int32)))))))), (pd, .inl (cI, 24, .inl ((odO (((ftO n fk fa ff 24 0 ((fun _ => (-2 : Int32))) ((fun _ => (-2 : Int32)))).1)) (((ftO n fk fa ff 24 0 ((fun _ => (-2 : Int32))) ((fun _ => (-2 : Int32)))).2)) 24 0 0 od).2))), (ph, .inl (cI, 8, .inl (((((fun _ => (-1 : Int32)))))))), (pq, .inl (cI, 24, .inl (((((fun _ => (-1 : Int32))))))))] H := hP
  have hD : va_D A [(lv, .inr (1, [.ref lf, .int stl])), (lf, .inl (cI, 61, .inl ff)), (r, .inr (0, [.ref rk, .ref ra, .ref rb, .ref rc, .int (nI n)])), (rk, .inl (cI, 60, .inl fk)), (ra, .inl (cI, 60, .inl fa)), (rb, .inl (cI, 60, .inl fb)), (rc, .inl (cI, 60, .inl fc)), (pl, .inr (2, [.ref pf, .ref pa, .ref po, .ref pr, .ref ps, .ref pd, .ref ph, .ref pq, .int (nI ((odO (((ftO n fk fa ff 24 0 ((fun _ => (-2 : Int32))) ((fun _ => (-2 : Int32)))).1)) (((ftO n fk fa ff 24 0 ((fun _ => (-2 : Int32))) ((fun _ => (-2 : Int32)))).2)) 24 0 0 od).1)), .int (nI w), .int ((0 : Int32))])), (pf, .inl (cI, 24, .inl ((((ftO n fk fa ff 24 0 ((fun _ => (-2 : Int32))) ((fun _ => (-2 : Int32)))).1))))), (pa, .inl (cI, 24, .inl ((((ftO n fk fa ff 24 0 ((fun _ => (-2 : Int32))) ((fun _ => (-2 : Int32)))).2))))), (po, .inl (cZ, 24, .inl ((ocO n fk ((ftO n fk fa ff 24 0 ((fun _ => (-2 : Int32))) ((fun _ => (-2 : Int32)))).1) ((ftO n fk fa ff 24 0 ((fun _ => (-2 : Int32))) ((fun _ => (-2 : Int32)))).2) 24 0 ov)))), (pr, .inl (cI, 24, .inl (((((fun _ => (-1 : Int32)))))))), (ps, .inl (cI, 24, .inl (((((fun _ => (-1 : Int32)))))))), (pd, .inl (cI, 24, .inl ((odO (((ftO n fk fa ff 24 0 ((fun _ => (-2 : Int32))) ((fun _ => (-2 : Int32)))).1)) (((ftO n fk fa ff 24 0 ((fun _ => (-2 : Int32))) ((fun _ => (-2 : Int32)))).2)) 24 0 0 od).2))), (ph, .inl (cI, 8, .inl (((((fun _ => (-1 : Int32)))))))), (pq, .inl (cI, 24, .inl (((((fun _ => (-1 : Int32))))))))] := hD
  refine lv_aload_n hx hb d_Plc_assign_20 rfl (lv_at hl 0 rfl) ?_
  refine sm_gov (wc := [(pl, .inr (2, [.ref pf, .ref pa, .ref po, .ref pr, .ref ps, .ref pd, .ref ph, .ref pq, .int (nI ((odO (((ftO n fk fa ff 24 0 ((fun _ => (-2 : Int32))) ((fun _ => (-2 : Int32)))).1)) (((ftO n fk fa ff 24 0 ((fun _ => (-2 : Int32))) ((fun _ => (-2 : Int32)))).2)) 24 0 0 od).1)), .int (nI w), .int ((0 : Int32))])), (pf, .inl (cI, 24, .inl ((((ftO n fk fa ff 24 0 ((fun _ => (-2 : Int32))) ((fun _ => (-2 : Int32)))).1))))), (pa, .inl (cI, 24, .inl ((((ftO n fk fa ff 24 0 ((fun _ => (-2 : Int32))) ((fun _ => (-2 : Int32)))).2))))), (po, .inl (cZ, 24, .inl ((ocO n fk ((ftO n fk fa ff 24 0 ((fun _ => (-2 : Int32))) ((fun _ => (-2 : Int32)))).1) ((ftO n fk fa ff 24 0 ((fun _ => (-2 : Int32))) ((fun _ => (-2 : Int32)))).2) 24 0 ov)))), (pr, .inl (cI, 24, .inl (((((fun _ => (-1 : Int32)))))))), (ps, .inl (cI, 24, .inl (((((fun _ => (-1 : Int32)))))))), (pd, .inl (cI, 24, .inl ((odO (((ftO n fk fa ff 24 0 ((fun _ => (-2 : Int32))) ((fun _ => (-2 : Int32)))).1)) (((ftO n fk fa ff 24 0 ((fun _ => (-2 : Int32))) ((fun _ => (-2 : Int32)))).2)) 24 0 0 od).2))), (ph, .inl (cI, 8, .inl (((((fun _ => (-1 : Int32)))))))), (pq, .inl (cI, 24, .inl (((((fun _ => (-1 : Int32))))))))]) (wr := [(lv, .inr (1, [.ref lf, .int stl])), (lf, .inl (cI, 61, .inl ff)), (r, .inr (0, [.ref rk, .ref ra, .ref rb, .ref rc, .int (nI n)])), (rk, .inl (cI, 60, .inl fk)), (ra, .inl (cI, 60, .inl fa)), (rb, .inl (cI, 60, .inl fb)), (rc, .inl (cI, 60, .inl fc))]) (va_runV (As := []) (rest := []) ⟨hx, hb, hml, hown, ht⟩ ((c_Plc_giveRegisters (l := l) (dC := dC) (dI := dI) (cI := cI) (cZ := cZ) (pl := pl) (pf := pf) (pa := pa) (po := po) (pr := pr) (ps := ps) (pd := pd) (ph := ph) (pq := pq) (wo := (odO (((ftO n fk fa ff 24 0 ((fun _ => (-2 : Int32))) ((fun _ => (-2 : Int32)))).1)) (((ftO n fk fa ff 24 0 ((fun _ => (-2 : Int32))) ((fun _ => (-2 : Int32)))).2)) 24 0 0 od).1) (wr := w) (fi := (((ftO n fk fa ff 24 0 ((fun _ => (-2 : Int32))) ((fun _ => (-2 : Int32)))).1))) (la := (((ftO n fk fa ff 24 0 ((fun _ => (-2 : Int32))) ((fun _ => (-2 : Int32)))).2))) (ov := (ocO n fk ((ftO n fk fa ff 24 0 ((fun _ => (-2 : Int32))) ((fun _ => (-2 : Int32)))).1) ((ftO n fk fa ff 24 0 ((fun _ => (-2 : Int32))) ((fun _ => (-2 : Int32)))).2) 24 0 ov)) (rg := ((((fun _ => (-1 : Int32)))))) (sl := ((((fun _ => (-1 : Int32)))))) (od := (odO (((ftO n fk fa ff 24 0 ((fun _ => (-2 : Int32))) ((fun _ => (-2 : Int32)))).1)) (((ftO n fk fa ff 24 0 ((fun _ => (-2 : Int32))) ((fun _ => (-2 : Int32)))).2)) 24 0 0 od).2) (rh := ((((fun _ => (-1 : Int32)))))) (sh := ((((fun _ => (-1 : Int32)))))) (sc := (0 : Int32)) hw8 (od_le _ _ _) (od_in _ _ _)).at H.size) (sm_cV 0 ht mw_295 mw_4 mw_292 mw_294 mp_10 rfl rfl (by decide +kernel) ⟨Nat.le_of_ble_eq_true rfl, Nat.le_of_ble_eq_true rfl⟩) (sm_preV (ci := 2) hN hK hP hD [7, 8, 9, 10, 11, 12, 13, 14, 15] rfl rfl (by decide) 7 rfl rfl) rfl rfl hl.1 rfl (lv_room (Nat.le_of_ble_eq_true rfl)) d_Plc_assign_21 ⟨Nat.zero_le _, Nat.zero_le _⟩) hP hD hS hA [7, 8, 9, 10, 11, 12, 13, 14, 15] [0, 1, 2, 3, 4, 5, 6] rfl rfl (by decide) (by decide) (fun w_21 H locs q_21 hP hD hS => ?_)
  obtain rfl := q_21
  have hP : va_P (dC, dI) smC [(lv, .inr (1, [.ref lf, .int stl])), (lf, .inl (cI, 61, .inl ff)), (r, .inr (0, [.ref rk, .ref ra, .ref rb, .ref rc, .int (nI n)])), (rk, .inl (cI, 60, .inl fk)), (ra, .inl (cI, 60, .inl fa)), (rb, .inl (cI, 60, .inl fb)), (rc, .inl (cI, 60, .inl fc)), (pl, .inr (2, [.ref pf, .ref pa, .ref po, .ref pr, .ref ps, .ref pd, .ref ph, .ref pq, .int (nI ((odO (((ftO n fk fa ff 24 0 ((fun _ => (-2 : Int32))) ((fun _ => (-2 : Int32)))).1)) (((ftO n fk fa ff 24 0 ((fun _ => (-2 : Int32))) ((fun _ => (-2 : Int32)))).2)) 24 0 0 od).1)), .int (nI w), .int ((0 : Int32))])), (pf, .inl (cI, 24, .inl (((((ftO n fk fa ff 24 0 ((fun _ => (-2 : Int32))) ((fun _ => (-2 : Int32)))).1)))))), (pa, .inl (cI, 24, .inl (((((ftO n fk fa ff 24 0 ((fun _ => (-2 : Int32))) ((fun _ => (-2 : Int32)))).2)))))), (po, .inl (cZ, 24, .inl (((ocO n fk ((ftO n fk fa ff 24 0 ((fun _ => (-2 : Int32))) ((fun _ => (-2 : Int32)))).1) ((ftO n fk fa ff 24 0 ((fun _ => (-2 : Int32))) ((fun _ => (-2 : Int32)))).2) 24 0 ov))))), (pr, .inl (cI, 24, .inl ((gRs ((((ftO n fk fa ff 24 0 ((fun _ => (-2 : Int32))) ((fun _ => (-2 : Int32)))).1))) ((((ftO n fk fa ff 24 0 ((fun _ => (-2 : Int32))) ((fun _ => (-2 : Int32)))).2))) ((ocO n fk ((ftO n fk fa ff 24 0 ((fun _ => (-2 : Int32))) ((fun _ => (-2 : Int32)))).1) ((ftO n fk fa ff 24 0 ((fun _ => (-2 : Int32))) ((fun _ => (-2 : Int32)))).2) 24 0 ov)) ((odO (((ftO n fk fa ff 24 0 ((fun _ => (-2 : Int32))) ((fun _ => (-2 : Int32)))).1)) (((ftO n fk fa ff 24 0 ((fun _ => (-2 : Int32))) ((fun _ => (-2 : Int32)))).2)) 24 0 0 od).2) w ((odO (((ftO n fk fa ff 24 0 ((fun _ => (-2 : Int32))) ((fun _ => (-2 : Int32)))).1)) (((ftO n fk fa ff 24 0 ((fun _ => (-2 : Int32))) ((fun _ => (-2 : Int32)))).2)) 24 0 0 od).1) 0 (((((fun _ => (-1 : Int32)))))) (((((fun _ => (-1 : Int32))))))).1))), (ps, .inl (cI, 24, .inl ((((((fun _ => (-1 : Int32))))))))), (pd, .inl (cI, 24, .inl (((odO (((ftO n fk fa ff 24 0 ((fun _ => (-2 : Int32))) ((fun _ => (-2 : Int32)))).1)) (((ftO n fk fa ff 24 0 ((fun _ => (-2 : Int32))) ((fun _ => (-2 : Int32)))).2)) 24 0 0 od).2)))), (ph, .inl (cI, 8, .inl ((gRs ((((ftO n fk fa ff 24 0 ((fun _ => (-2 : Int32))) ((fun _ => (-2 : Int32)))).1))) ((((ftO n fk fa ff 24 0 ((fun _ => (-2 : Int32))) ((fun _ => (-2 : Int32)))).2))) ((ocO n fk ((ftO n fk fa ff 24 0 ((fun _ => (-2 : Int32))) ((fun _ => (-2 : Int32)))).1) ((ftO n fk fa ff 24 0 ((fun _ => (-2 : Int32))) ((fun _ => (-2 : Int32)))).2) 24 0 ov)) ((odO (((ftO n fk fa ff 24 0 ((fun _ => (-2 : Int32))) ((fun _ => (-2 : Int32)))).1)) (((ftO n fk fa ff 24 0 ((fun _ => (-2 : Int32))) ((fun _ => (-2 : Int32)))).2)) 24 0 0 od).2) w ((odO (((ftO n fk fa ff 24 0 ((fun _ => (-2 : Int32))) ((fun _ => (-2 : Int32)))).1)) (((ftO n fk fa ff 24 0 ((fun _ => (-2 : Int32))) ((fun _ => (-2 : Int32)))).2)) 24 0 0 od).1) 0 (((((fun _ => (-1 : Int32)))))) (((((fun _ => (-1 : Int32))))))).2))), (pq, .inl (cI, 24, .inl ((((((fun _ => (-1 : Int32)))))))))] H := hP
  have hD : va_D A [(lv, .inr (1, [.ref lf, .int stl])), (lf, .inl (cI, 61, .inl ff)), (r, .inr (0, [.ref rk, .ref ra, .ref rb, .ref rc, .int (nI n)])), (rk, .inl (cI, 60, .inl fk)), (ra, .inl (cI, 60, .inl fa)), (rb, .inl (cI, 60, .inl fb)), (rc, .inl (cI, 60, .inl fc)), (pl, .inr (2, [.ref pf, .ref pa, .ref po, .ref pr, .ref ps, .ref pd, .ref ph, .ref pq, .int (nI ((odO (((ftO n fk fa ff 24 0 ((fun _ => (-2 : Int32))) ((fun _ => (-2 : Int32)))).1)) (((ftO n fk fa ff 24 0 ((fun _ => (-2 : Int32))) ((fun _ => (-2 : Int32)))).2)) 24 0 0 od).1)), .int (nI w), .int ((0 : Int32))])), (pf, .inl (cI, 24, .inl (((((ftO n fk fa ff 24 0 ((fun _ => (-2 : Int32))) ((fun _ => (-2 : Int32)))).1)))))), (pa, .inl (cI, 24, .inl (((((ftO n fk fa ff 24 0 ((fun _ => (-2 : Int32))) ((fun _ => (-2 : Int32)))).2)))))), (po, .inl (cZ, 24, .inl (((ocO n fk ((ftO n fk fa ff 24 0 ((fun _ => (-2 : Int32))) ((fun _ => (-2 : Int32)))).1) ((ftO n fk fa ff 24 0 ((fun _ => (-2 : Int32))) ((fun _ => (-2 : Int32)))).2) 24 0 ov))))), (pr, .inl (cI, 24, .inl ((gRs ((((ftO n fk fa ff 24 0 ((fun _ => (-2 : Int32))) ((fun _ => (-2 : Int32)))).1))) ((((ftO n fk fa ff 24 0 ((fun _ => (-2 : Int32))) ((fun _ => (-2 : Int32)))).2))) ((ocO n fk ((ftO n fk fa ff 24 0 ((fun _ => (-2 : Int32))) ((fun _ => (-2 : Int32)))).1) ((ftO n fk fa ff 24 0 ((fun _ => (-2 : Int32))) ((fun _ => (-2 : Int32)))).2) 24 0 ov)) ((odO (((ftO n fk fa ff 24 0 ((fun _ => (-2 : Int32))) ((fun _ => (-2 : Int32)))).1)) (((ftO n fk fa ff 24 0 ((fun _ => (-2 : Int32))) ((fun _ => (-2 : Int32)))).2)) 24 0 0 od).2) w ((odO (((ftO n fk fa ff 24 0 ((fun _ => (-2 : Int32))) ((fun _ => (-2 : Int32)))).1)) (((ftO n fk fa ff 24 0 ((fun _ => (-2 : Int32))) ((fun _ => (-2 : Int32)))).2)) 24 0 0 od).1) 0 (((((fun _ => (-1 : Int32)))))) (((((fun _ => (-1 : Int32))))))).1))), (ps, .inl (cI, 24, .inl ((((((fun _ => (-1 : Int32))))))))), (pd, .inl (cI, 24, .inl (((odO (((ftO n fk fa ff 24 0 ((fun _ => (-2 : Int32))) ((fun _ => (-2 : Int32)))).1)) (((ftO n fk fa ff 24 0 ((fun _ => (-2 : Int32))) ((fun _ => (-2 : Int32)))).2)) 24 0 0 od).2)))), (ph, .inl (cI, 8, .inl ((gRs ((((ftO n fk fa ff 24 0 ((fun _ => (-2 : Int32))) ((fun _ => (-2 : Int32)))).1))) ((((ftO n fk fa ff 24 0 ((fun _ => (-2 : Int32))) ((fun _ => (-2 : Int32)))).2))) ((ocO n fk ((ftO n fk fa ff 24 0 ((fun _ => (-2 : Int32))) ((fun _ => (-2 : Int32)))).1) ((ftO n fk fa ff 24 0 ((fun _ => (-2 : Int32))) ((fun _ => (-2 : Int32)))).2) 24 0 ov)) ((odO (((ftO n fk fa ff 24 0 ((fun _ => (-2 : Int32))) ((fun _ => (-2 : Int32)))).1)) (((ftO n fk fa ff 24 0 ((fun _ => (-2 : Int32))) ((fun _ => (-2 : Int32)))).2)) 24 0 0 od).2) w ((odO (((ftO n fk fa ff 24 0 ((fun _ => (-2 : Int32))) ((fun _ => (-2 : Int32)))).1)) (((ftO n fk fa ff 24 0 ((fun _ => (-2 : Int32))) ((fun _ => (-2 : Int32)))).2)) 24 0 0 od).1) 0 (((((fun _ => (-1 : Int32)))))) (((((fun _ => (-1 : Int32))))))).2))), (pq, .inl (cI, 24, .inl ((((((fun _ => (-1 : Int32)))))))))] := hD
  refine lv_aload_n hx hb d_Plc_assign_24 rfl (lv_at hl 0 rfl) ?_
  refine sm_gov (wc := [(pl, .inr (2, [.ref pf, .ref pa, .ref po, .ref pr, .ref ps, .ref pd, .ref ph, .ref pq, .int (nI ((odO (((ftO n fk fa ff 24 0 ((fun _ => (-2 : Int32))) ((fun _ => (-2 : Int32)))).1)) (((ftO n fk fa ff 24 0 ((fun _ => (-2 : Int32))) ((fun _ => (-2 : Int32)))).2)) 24 0 0 od).1)), .int (nI w), .int ((0 : Int32))])), (pf, .inl (cI, 24, .inl (((((ftO n fk fa ff 24 0 ((fun _ => (-2 : Int32))) ((fun _ => (-2 : Int32)))).1)))))), (pa, .inl (cI, 24, .inl (((((ftO n fk fa ff 24 0 ((fun _ => (-2 : Int32))) ((fun _ => (-2 : Int32)))).2)))))), (po, .inl (cZ, 24, .inl (((ocO n fk ((ftO n fk fa ff 24 0 ((fun _ => (-2 : Int32))) ((fun _ => (-2 : Int32)))).1) ((ftO n fk fa ff 24 0 ((fun _ => (-2 : Int32))) ((fun _ => (-2 : Int32)))).2) 24 0 ov))))), (pr, .inl (cI, 24, .inl ((gRs ((((ftO n fk fa ff 24 0 ((fun _ => (-2 : Int32))) ((fun _ => (-2 : Int32)))).1))) ((((ftO n fk fa ff 24 0 ((fun _ => (-2 : Int32))) ((fun _ => (-2 : Int32)))).2))) ((ocO n fk ((ftO n fk fa ff 24 0 ((fun _ => (-2 : Int32))) ((fun _ => (-2 : Int32)))).1) ((ftO n fk fa ff 24 0 ((fun _ => (-2 : Int32))) ((fun _ => (-2 : Int32)))).2) 24 0 ov)) ((odO (((ftO n fk fa ff 24 0 ((fun _ => (-2 : Int32))) ((fun _ => (-2 : Int32)))).1)) (((ftO n fk fa ff 24 0 ((fun _ => (-2 : Int32))) ((fun _ => (-2 : Int32)))).2)) 24 0 0 od).2) w ((odO (((ftO n fk fa ff 24 0 ((fun _ => (-2 : Int32))) ((fun _ => (-2 : Int32)))).1)) (((ftO n fk fa ff 24 0 ((fun _ => (-2 : Int32))) ((fun _ => (-2 : Int32)))).2)) 24 0 0 od).1) 0 (((((fun _ => (-1 : Int32)))))) (((((fun _ => (-1 : Int32))))))).1))), (ps, .inl (cI, 24, .inl ((((((fun _ => (-1 : Int32))))))))), (pd, .inl (cI, 24, .inl (((odO (((ftO n fk fa ff 24 0 ((fun _ => (-2 : Int32))) ((fun _ => (-2 : Int32)))).1)) (((ftO n fk fa ff 24 0 ((fun _ => (-2 : Int32))) ((fun _ => (-2 : Int32)))).2)) 24 0 0 od).2)))), (ph, .inl (cI, 8, .inl ((gRs ((((ftO n fk fa ff 24 0 ((fun _ => (-2 : Int32))) ((fun _ => (-2 : Int32)))).1))) ((((ftO n fk fa ff 24 0 ((fun _ => (-2 : Int32))) ((fun _ => (-2 : Int32)))).2))) ((ocO n fk ((ftO n fk fa ff 24 0 ((fun _ => (-2 : Int32))) ((fun _ => (-2 : Int32)))).1) ((ftO n fk fa ff 24 0 ((fun _ => (-2 : Int32))) ((fun _ => (-2 : Int32)))).2) 24 0 ov)) ((odO (((ftO n fk fa ff 24 0 ((fun _ => (-2 : Int32))) ((fun _ => (-2 : Int32)))).1)) (((ftO n fk fa ff 24 0 ((fun _ => (-2 : Int32))) ((fun _ => (-2 : Int32)))).2)) 24 0 0 od).2) w ((odO (((ftO n fk fa ff 24 0 ((fun _ => (-2 : Int32))) ((fun _ => (-2 : Int32)))).1)) (((ftO n fk fa ff 24 0 ((fun _ => (-2 : Int32))) ((fun _ => (-2 : Int32)))).2)) 24 0 0 od).1) 0 (((((fun _ => (-1 : Int32)))))) (((((fun _ => (-1 : Int32))))))).2))), (pq, .inl (cI, 24, .inl ((((((fun _ => (-1 : Int32)))))))))]) (wr := [(lv, .inr (1, [.ref lf, .int stl])), (lf, .inl (cI, 61, .inl ff)), (r, .inr (0, [.ref rk, .ref ra, .ref rb, .ref rc, .int (nI n)])), (rk, .inl (cI, 60, .inl fk)), (ra, .inl (cI, 60, .inl fa)), (rb, .inl (cI, 60, .inl fb)), (rc, .inl (cI, 60, .inl fc))]) (va_runV (As := []) (rest := []) ⟨hx, hb, hml, hown, ht⟩ ((c_Plc_giveSlots (l := l) (dC := dC) (dI := dI) (cI := cI) (cZ := cZ) (pl := pl) (pf := pf) (pa := pa) (po := po) (pr := pr) (ps := ps) (pd := pd) (ph := ph) (pq := pq) (wo := (odO (((ftO n fk fa ff 24 0 ((fun _ => (-2 : Int32))) ((fun _ => (-2 : Int32)))).1)) (((ftO n fk fa ff 24 0 ((fun _ => (-2 : Int32))) ((fun _ => (-2 : Int32)))).2)) 24 0 0 od).1) (wr := w) (fi := ((((ftO n fk fa ff 24 0 ((fun _ => (-2 : Int32))) ((fun _ => (-2 : Int32)))).1)))) (la := ((((ftO n fk fa ff 24 0 ((fun _ => (-2 : Int32))) ((fun _ => (-2 : Int32)))).2)))) (ov := ((ocO n fk ((ftO n fk fa ff 24 0 ((fun _ => (-2 : Int32))) ((fun _ => (-2 : Int32)))).1) ((ftO n fk fa ff 24 0 ((fun _ => (-2 : Int32))) ((fun _ => (-2 : Int32)))).2) 24 0 ov))) (rg := (gRs ((((ftO n fk fa ff 24 0 ((fun _ => (-2 : Int32))) ((fun _ => (-2 : Int32)))).1))) ((((ftO n fk fa ff 24 0 ((fun _ => (-2 : Int32))) ((fun _ => (-2 : Int32)))).2))) ((ocO n fk ((ftO n fk fa ff 24 0 ((fun _ => (-2 : Int32))) ((fun _ => (-2 : Int32)))).1) ((ftO n fk fa ff 24 0 ((fun _ => (-2 : Int32))) ((fun _ => (-2 : Int32)))).2) 24 0 ov)) ((odO (((ftO n fk fa ff 24 0 ((fun _ => (-2 : Int32))) ((fun _ => (-2 : Int32)))).1)) (((ftO n fk fa ff 24 0 ((fun _ => (-2 : Int32))) ((fun _ => (-2 : Int32)))).2)) 24 0 0 od).2) w ((odO (((ftO n fk fa ff 24 0 ((fun _ => (-2 : Int32))) ((fun _ => (-2 : Int32)))).1)) (((ftO n fk fa ff 24 0 ((fun _ => (-2 : Int32))) ((fun _ => (-2 : Int32)))).2)) 24 0 0 od).1) 0 (((((fun _ => (-1 : Int32)))))) (((((fun _ => (-1 : Int32))))))).1) (sl := (((((fun _ => (-1 : Int32))))))) (od := ((odO (((ftO n fk fa ff 24 0 ((fun _ => (-2 : Int32))) ((fun _ => (-2 : Int32)))).1)) (((ftO n fk fa ff 24 0 ((fun _ => (-2 : Int32))) ((fun _ => (-2 : Int32)))).2)) 24 0 0 od).2)) (rh := (gRs ((((ftO n fk fa ff 24 0 ((fun _ => (-2 : Int32))) ((fun _ => (-2 : Int32)))).1))) ((((ftO n fk fa ff 24 0 ((fun _ => (-2 : Int32))) ((fun _ => (-2 : Int32)))).2))) ((ocO n fk ((ftO n fk fa ff 24 0 ((fun _ => (-2 : Int32))) ((fun _ => (-2 : Int32)))).1) ((ftO n fk fa ff 24 0 ((fun _ => (-2 : Int32))) ((fun _ => (-2 : Int32)))).2) 24 0 ov)) ((odO (((ftO n fk fa ff 24 0 ((fun _ => (-2 : Int32))) ((fun _ => (-2 : Int32)))).1)) (((ftO n fk fa ff 24 0 ((fun _ => (-2 : Int32))) ((fun _ => (-2 : Int32)))).2)) 24 0 0 od).2) w ((odO (((ftO n fk fa ff 24 0 ((fun _ => (-2 : Int32))) ((fun _ => (-2 : Int32)))).1)) (((ftO n fk fa ff 24 0 ((fun _ => (-2 : Int32))) ((fun _ => (-2 : Int32)))).2)) 24 0 0 od).1) 0 (((((fun _ => (-1 : Int32)))))) (((((fun _ => (-1 : Int32))))))).2) (sh := (((((fun _ => (-1 : Int32))))))) (sc := (0 : Int32)) (od_le _ _ _) (od_in _ _ _)).at H.size) (sm_cV 0 ht mw_323 mw_4 mw_320 mw_322 mp_15 rfl rfl (by decide +kernel) ⟨Nat.le_of_ble_eq_true rfl, Nat.le_of_ble_eq_true rfl⟩) (sm_preV (ci := 2) hN hK hP hD [7, 8, 9, 10, 11, 12, 13, 14, 15] rfl rfl (by decide) 7 rfl rfl) rfl rfl hl.1 rfl (lv_room (Nat.le_of_ble_eq_true rfl)) d_Plc_assign_25 ⟨Nat.zero_le _, Nat.zero_le _⟩) hP hD hS hA [7, 8, 9, 10, 11, 12, 13, 14, 15] [0, 1, 2, 3, 4, 5, 6] rfl rfl (by decide) (by decide) (fun w_25 H locs q_25 hP hD hS => ?_)
  obtain rfl := q_25
  have hP : va_P (dC, dI) smC [(lv, .inr (1, [.ref lf, .int stl])), (lf, .inl (cI, 61, .inl ff)), (r, .inr (0, [.ref rk, .ref ra, .ref rb, .ref rc, .int (nI n)])), (rk, .inl (cI, 60, .inl fk)), (ra, .inl (cI, 60, .inl fa)), (rb, .inl (cI, 60, .inl fb)), (rc, .inl (cI, 60, .inl fc)), (pl, .inr (2, [.ref pf, .ref pa, .ref po, .ref pr, .ref ps, .ref pd, .ref ph, .ref pq, .int (nI ((odO (((ftO n fk fa ff 24 0 ((fun _ => (-2 : Int32))) ((fun _ => (-2 : Int32)))).1)) (((ftO n fk fa ff 24 0 ((fun _ => (-2 : Int32))) ((fun _ => (-2 : Int32)))).2)) 24 0 0 od).1)), .int (nI w), .int ((gSs (((((ftO n fk fa ff 24 0 ((fun _ => (-2 : Int32))) ((fun _ => (-2 : Int32)))).1)))) (((((ftO n fk fa ff 24 0 ((fun _ => (-2 : Int32))) ((fun _ => (-2 : Int32)))).2)))) ((gRs ((((ftO n fk fa ff 24 0 ((fun _ => (-2 : Int32))) ((fun _ => (-2 : Int32)))).1))) ((((ftO n fk fa ff 24 0 ((fun _ => (-2 : Int32))) ((fun _ => (-2 : Int32)))).2))) ((ocO n fk ((ftO n fk fa ff 24 0 ((fun _ => (-2 : Int32))) ((fun _ => (-2 : Int32)))).1) ((ftO n fk fa ff 24 0 ((fun _ => (-2 : Int32))) ((fun _ => (-2 : Int32)))).2) 24 0 ov)) ((odO (((ftO n fk fa ff 24 0 ((fun _ => (-2 : Int32))) ((fun _ => (-2 : Int32)))).1)) (((ftO n fk fa ff 24 0 ((fun _ => (-2 : Int32))) ((fun _ => (-2 : Int32)))).2)) 24 0 0 od).2) w ((odO (((ftO n fk fa ff 24 0 ((fun _ => (-2 : Int32))) ((fun _ => (-2 : Int32)))).1)) (((ftO n fk fa ff 24 0 ((fun _ => (-2 : Int32))) ((fun _ => (-2 : Int32)))).2)) 24 0 0 od).1) 0 (((((fun _ => (-1 : Int32)))))) (((((fun _ => (-1 : Int32))))))).1) (((odO (((ftO n fk fa ff 24 0 ((fun _ => (-2 : Int32))) ((fun _ => (-2 : Int32)))).1)) (((ftO n fk fa ff 24 0 ((fun _ => (-2 : Int32))) ((fun _ => (-2 : Int32)))).2)) 24 0 0 od).2)) ((odO (((ftO n fk fa ff 24 0 ((fun _ => (-2 : Int32))) ((fun _ => (-2 : Int32)))).1)) (((ftO n fk fa ff 24 0 ((fun _ => (-2 : Int32))) ((fun _ => (-2 : Int32)))).2)) 24 0 0 od).1) 0 ((((((fun _ => (-1 : Int32))))))) ((((((fun _ => (-1 : Int32))))))) ((0 : Int32))).2.2)])), (pf, .inl (cI, 24, .inl ((((((ftO n fk fa ff 24 0 ((fun _ => (-2 : Int32))) ((fun _ => (-2 : Int32)))).1))))))), (pa, .inl (cI, 24, .inl ((((((ftO n fk fa ff 24 0 ((fun _ => (-2 : Int32))) ((fun _ => (-2 : Int32)))).2))))))), (po, .inl (cZ, 24, .inl ((((ocO n fk ((ftO n fk fa ff 24 0 ((fun _ => (-2 : Int32))) ((fun _ => (-2 : Int32)))).1) ((ftO n fk fa ff 24 0 ((fun _ => (-2 : Int32))) ((fun _ => (-2 : Int32)))).2) 24 0 ov)))))), (pr, .inl (cI, 24, .inl (((gRs ((((ftO n fk fa ff 24 0 ((fun _ => (-2 : Int32))) ((fun _ => (-2 : Int32)))).1))) ((((ftO n fk fa ff 24 0 ((fun _ => (-2 : Int32))) ((fun _ => (-2 : Int32)))).2))) ((ocO n fk ((ftO n fk fa ff 24 0 ((fun _ => (-2 : Int32))) ((fun _ => (-2 : Int32)))).1) ((ftO n fk fa ff 24 0 ((fun _ => (-2 : Int32))) ((fun _ => (-2 : Int32)))).2) 24 0 ov)) ((odO (((ftO n fk fa ff 24 0 ((fun _ => (-2 : Int32))) ((fun _ => (-2 : Int32)))).1)) (((ftO n fk fa ff 24 0 ((fun _ => (-2 : Int32))) ((fun _ => (-2 : Int32)))).2)) 24 0 0 od).2) w ((odO (((ftO n fk fa ff 24 0 ((fun _ => (-2 : Int32))) ((fun _ => (-2 : Int32)))).1)) (((ftO n fk fa ff 24 0 ((fun _ => (-2 : Int32))) ((fun _ => (-2 : Int32)))).2)) 24 0 0 od).1) 0 (((((fun _ => (-1 : Int32)))))) (((((fun _ => (-1 : Int32))))))).1)))), (ps, .inl (cI, 24, .inl ((gSs (((((ftO n fk fa ff 24 0 ((fun _ => (-2 : Int32))) ((fun _ => (-2 : Int32)))).1)))) (((((ftO n fk fa ff 24 0 ((fun _ => (-2 : Int32))) ((fun _ => (-2 : Int32)))).2)))) ((gRs ((((ftO n fk fa ff 24 0 ((fun _ => (-2 : Int32))) ((fun _ => (-2 : Int32)))).1))) ((((ftO n fk fa ff 24 0 ((fun _ => (-2 : Int32))) ((fun _ => (-2 : Int32)))).2))) ((ocO n fk ((ftO n fk fa ff 24 0 ((fun _ => (-2 : Int32))) ((fun _ => (-2 : Int32)))).1) ((ftO n fk fa ff 24 0 ((fun _ => (-2 : Int32))) ((fun _ => (-2 : Int32)))).2) 24 0 ov)) ((odO (((ftO n fk fa ff 24 0 ((fun _ => (-2 : Int32))) ((fun _ => (-2 : Int32)))).1)) (((ftO n fk fa ff 24 0 ((fun _ => (-2 : Int32))) ((fun _ => (-2 : Int32)))).2)) 24 0 0 od).2) w ((odO (((ftO n fk fa ff 24 0 ((fun _ => (-2 : Int32))) ((fun _ => (-2 : Int32)))).1)) (((ftO n fk fa ff 24 0 ((fun _ => (-2 : Int32))) ((fun _ => (-2 : Int32)))).2)) 24 0 0 od).1) 0 (((((fun _ => (-1 : Int32)))))) (((((fun _ => (-1 : Int32))))))).1) (((odO (((ftO n fk fa ff 24 0 ((fun _ => (-2 : Int32))) ((fun _ => (-2 : Int32)))).1)) (((ftO n fk fa ff 24 0 ((fun _ => (-2 : Int32))) ((fun _ => (-2 : Int32)))).2)) 24 0 0 od).2)) ((odO (((ftO n fk fa ff 24 0 ((fun _ => (-2 : Int32))) ((fun _ => (-2 : Int32)))).1)) (((ftO n fk fa ff 24 0 ((fun _ => (-2 : Int32))) ((fun _ => (-2 : Int32)))).2)) 24 0 0 od).1) 0 ((((((fun _ => (-1 : Int32))))))) ((((((fun _ => (-1 : Int32))))))) ((0 : Int32))).1))), (pd, .inl (cI, 24, .inl ((((odO (((ftO n fk fa ff 24 0 ((fun _ => (-2 : Int32))) ((fun _ => (-2 : Int32)))).1)) (((ftO n fk fa ff 24 0 ((fun _ => (-2 : Int32))) ((fun _ => (-2 : Int32)))).2)) 24 0 0 od).2))))), (ph, .inl (cI, 8, .inl (((gRs ((((ftO n fk fa ff 24 0 ((fun _ => (-2 : Int32))) ((fun _ => (-2 : Int32)))).1))) ((((ftO n fk fa ff 24 0 ((fun _ => (-2 : Int32))) ((fun _ => (-2 : Int32)))).2))) ((ocO n fk ((ftO n fk fa ff 24 0 ((fun _ => (-2 : Int32))) ((fun _ => (-2 : Int32)))).1) ((ftO n fk fa ff 24 0 ((fun _ => (-2 : Int32))) ((fun _ => (-2 : Int32)))).2) 24 0 ov)) ((odO (((ftO n fk fa ff 24 0 ((fun _ => (-2 : Int32))) ((fun _ => (-2 : Int32)))).1)) (((ftO n fk fa ff 24 0 ((fun _ => (-2 : Int32))) ((fun _ => (-2 : Int32)))).2)) 24 0 0 od).2) w ((odO (((ftO n fk fa ff 24 0 ((fun _ => (-2 : Int32))) ((fun _ => (-2 : Int32)))).1)) (((ftO n fk fa ff 24 0 ((fun _ => (-2 : Int32))) ((fun _ => (-2 : Int32)))).2)) 24 0 0 od).1) 0 (((((fun _ => (-1 : Int32)))))) (((((fun _ => (-1 : Int32))))))).2)))), (pq, .inl (cI, 24, .inl ((gSs (((((ftO n fk fa ff 24 0 ((fun _ => (-2 : Int32))) ((fun _ => (-2 : Int32)))).1)))) (((((ftO n fk fa ff 24 0 ((fun _ => (-2 : Int32))) ((fun _ => (-2 : Int32)))).2)))) ((gRs ((((ftO n fk fa ff 24 0 ((fun _ => (-2 : Int32))) ((fun _ => (-2 : Int32)))).1))) ((((ftO n fk fa ff 24 0 ((fun _ => (-2 : Int32))) ((fun _ => (-2 : Int32)))).2))) ((ocO n fk ((ftO n fk fa ff 24 0 ((fun _ => (-2 : Int32))) ((fun _ => (-2 : Int32)))).1) ((ftO n fk fa ff 24 0 ((fun _ => (-2 : Int32))) ((fun _ => (-2 : Int32)))).2) 24 0 ov)) ((odO (((ftO n fk fa ff 24 0 ((fun _ => (-2 : Int32))) ((fun _ => (-2 : Int32)))).1)) (((ftO n fk fa ff 24 0 ((fun _ => (-2 : Int32))) ((fun _ => (-2 : Int32)))).2)) 24 0 0 od).2) w ((odO (((ftO n fk fa ff 24 0 ((fun _ => (-2 : Int32))) ((fun _ => (-2 : Int32)))).1)) (((ftO n fk fa ff 24 0 ((fun _ => (-2 : Int32))) ((fun _ => (-2 : Int32)))).2)) 24 0 0 od).1) 0 (((((fun _ => (-1 : Int32)))))) (((((fun _ => (-1 : Int32))))))).1) (((odO (((ftO n fk fa ff 24 0 ((fun _ => (-2 : Int32))) ((fun _ => (-2 : Int32)))).1)) (((ftO n fk fa ff 24 0 ((fun _ => (-2 : Int32))) ((fun _ => (-2 : Int32)))).2)) 24 0 0 od).2)) ((odO (((ftO n fk fa ff 24 0 ((fun _ => (-2 : Int32))) ((fun _ => (-2 : Int32)))).1)) (((ftO n fk fa ff 24 0 ((fun _ => (-2 : Int32))) ((fun _ => (-2 : Int32)))).2)) 24 0 0 od).1) 0 ((((((fun _ => (-1 : Int32))))))) ((((((fun _ => (-1 : Int32))))))) ((0 : Int32))).2.1)))] H := hP
  have hD : va_D A [(lv, .inr (1, [.ref lf, .int stl])), (lf, .inl (cI, 61, .inl ff)), (r, .inr (0, [.ref rk, .ref ra, .ref rb, .ref rc, .int (nI n)])), (rk, .inl (cI, 60, .inl fk)), (ra, .inl (cI, 60, .inl fa)), (rb, .inl (cI, 60, .inl fb)), (rc, .inl (cI, 60, .inl fc)), (pl, .inr (2, [.ref pf, .ref pa, .ref po, .ref pr, .ref ps, .ref pd, .ref ph, .ref pq, .int (nI ((odO (((ftO n fk fa ff 24 0 ((fun _ => (-2 : Int32))) ((fun _ => (-2 : Int32)))).1)) (((ftO n fk fa ff 24 0 ((fun _ => (-2 : Int32))) ((fun _ => (-2 : Int32)))).2)) 24 0 0 od).1)), .int (nI w), .int ((gSs (((((ftO n fk fa ff 24 0 ((fun _ => (-2 : Int32))) ((fun _ => (-2 : Int32)))).1)))) (((((ftO n fk fa ff 24 0 ((fun _ => (-2 : Int32))) ((fun _ => (-2 : Int32)))).2)))) ((gRs ((((ftO n fk fa ff 24 0 ((fun _ => (-2 : Int32))) ((fun _ => (-2 : Int32)))).1))) ((((ftO n fk fa ff 24 0 ((fun _ => (-2 : Int32))) ((fun _ => (-2 : Int32)))).2))) ((ocO n fk ((ftO n fk fa ff 24 0 ((fun _ => (-2 : Int32))) ((fun _ => (-2 : Int32)))).1) ((ftO n fk fa ff 24 0 ((fun _ => (-2 : Int32))) ((fun _ => (-2 : Int32)))).2) 24 0 ov)) ((odO (((ftO n fk fa ff 24 0 ((fun _ => (-2 : Int32))) ((fun _ => (-2 : Int32)))).1)) (((ftO n fk fa ff 24 0 ((fun _ => (-2 : Int32))) ((fun _ => (-2 : Int32)))).2)) 24 0 0 od).2) w ((odO (((ftO n fk fa ff 24 0 ((fun _ => (-2 : Int32))) ((fun _ => (-2 : Int32)))).1)) (((ftO n fk fa ff 24 0 ((fun _ => (-2 : Int32))) ((fun _ => (-2 : Int32)))).2)) 24 0 0 od).1) 0 (((((fun _ => (-1 : Int32)))))) (((((fun _ => (-1 : Int32))))))).1) (((odO (((ftO n fk fa ff 24 0 ((fun _ => (-2 : Int32))) ((fun _ => (-2 : Int32)))).1)) (((ftO n fk fa ff 24 0 ((fun _ => (-2 : Int32))) ((fun _ => (-2 : Int32)))).2)) 24 0 0 od).2)) ((odO (((ftO n fk fa ff 24 0 ((fun _ => (-2 : Int32))) ((fun _ => (-2 : Int32)))).1)) (((ftO n fk fa ff 24 0 ((fun _ => (-2 : Int32))) ((fun _ => (-2 : Int32)))).2)) 24 0 0 od).1) 0 ((((((fun _ => (-1 : Int32))))))) ((((((fun _ => (-1 : Int32))))))) ((0 : Int32))).2.2)])), (pf, .inl (cI, 24, .inl ((((((ftO n fk fa ff 24 0 ((fun _ => (-2 : Int32))) ((fun _ => (-2 : Int32)))).1))))))), (pa, .inl (cI, 24, .inl ((((((ftO n fk fa ff 24 0 ((fun _ => (-2 : Int32))) ((fun _ => (-2 : Int32)))).2))))))), (po, .inl (cZ, 24, .inl ((((ocO n fk ((ftO n fk fa ff 24 0 ((fun _ => (-2 : Int32))) ((fun _ => (-2 : Int32)))).1) ((ftO n fk fa ff 24 0 ((fun _ => (-2 : Int32))) ((fun _ => (-2 : Int32)))).2) 24 0 ov)))))), (pr, .inl (cI, 24, .inl (((gRs ((((ftO n fk fa ff 24 0 ((fun _ => (-2 : Int32))) ((fun _ => (-2 : Int32)))).1))) ((((ftO n fk fa ff 24 0 ((fun _ => (-2 : Int32))) ((fun _ => (-2 : Int32)))).2))) ((ocO n fk ((ftO n fk fa ff 24 0 ((fun _ => (-2 : Int32))) ((fun _ => (-2 : Int32)))).1) ((ftO n fk fa ff 24 0 ((fun _ => (-2 : Int32))) ((fun _ => (-2 : Int32)))).2) 24 0 ov)) ((odO (((ftO n fk fa ff 24 0 ((fun _ => (-2 : Int32))) ((fun _ => (-2 : Int32)))).1)) (((ftO n fk fa ff 24 0 ((fun _ => (-2 : Int32))) ((fun _ => (-2 : Int32)))).2)) 24 0 0 od).2) w ((odO (((ftO n fk fa ff 24 0 ((fun _ => (-2 : Int32))) ((fun _ => (-2 : Int32)))).1)) (((ftO n fk fa ff 24 0 ((fun _ => (-2 : Int32))) ((fun _ => (-2 : Int32)))).2)) 24 0 0 od).1) 0 (((((fun _ => (-1 : Int32)))))) (((((fun _ => (-1 : Int32))))))).1)))), (ps, .inl (cI, 24, .inl ((gSs (((((ftO n fk fa ff 24 0 ((fun _ => (-2 : Int32))) ((fun _ => (-2 : Int32)))).1)))) (((((ftO n fk fa ff 24 0 ((fun _ => (-2 : Int32))) ((fun _ => (-2 : Int32)))).2)))) ((gRs ((((ftO n fk fa ff 24 0 ((fun _ => (-2 : Int32))) ((fun _ => (-2 : Int32)))).1))) ((((ftO n fk fa ff 24 0 ((fun _ => (-2 : Int32))) ((fun _ => (-2 : Int32)))).2))) ((ocO n fk ((ftO n fk fa ff 24 0 ((fun _ => (-2 : Int32))) ((fun _ => (-2 : Int32)))).1) ((ftO n fk fa ff 24 0 ((fun _ => (-2 : Int32))) ((fun _ => (-2 : Int32)))).2) 24 0 ov)) ((odO (((ftO n fk fa ff 24 0 ((fun _ => (-2 : Int32))) ((fun _ => (-2 : Int32)))).1)) (((ftO n fk fa ff 24 0 ((fun _ => (-2 : Int32))) ((fun _ => (-2 : Int32)))).2)) 24 0 0 od).2) w ((odO (((ftO n fk fa ff 24 0 ((fun _ => (-2 : Int32))) ((fun _ => (-2 : Int32)))).1)) (((ftO n fk fa ff 24 0 ((fun _ => (-2 : Int32))) ((fun _ => (-2 : Int32)))).2)) 24 0 0 od).1) 0 (((((fun _ => (-1 : Int32)))))) (((((fun _ => (-1 : Int32))))))).1) (((odO (((ftO n fk fa ff 24 0 ((fun _ => (-2 : Int32))) ((fun _ => (-2 : Int32)))).1)) (((ftO n fk fa ff 24 0 ((fun _ => (-2 : Int32))) ((fun _ => (-2 : Int32)))).2)) 24 0 0 od).2)) ((odO (((ftO n fk fa ff 24 0 ((fun _ => (-2 : Int32))) ((fun _ => (-2 : Int32)))).1)) (((ftO n fk fa ff 24 0 ((fun _ => (-2 : Int32))) ((fun _ => (-2 : Int32)))).2)) 24 0 0 od).1) 0 ((((((fun _ => (-1 : Int32))))))) ((((((fun _ => (-1 : Int32))))))) ((0 : Int32))).1))), (pd, .inl (cI, 24, .inl ((((odO (((ftO n fk fa ff 24 0 ((fun _ => (-2 : Int32))) ((fun _ => (-2 : Int32)))).1)) (((ftO n fk fa ff 24 0 ((fun _ => (-2 : Int32))) ((fun _ => (-2 : Int32)))).2)) 24 0 0 od).2))))), (ph, .inl (cI, 8, .inl (((gRs ((((ftO n fk fa ff 24 0 ((fun _ => (-2 : Int32))) ((fun _ => (-2 : Int32)))).1))) ((((ftO n fk fa ff 24 0 ((fun _ => (-2 : Int32))) ((fun _ => (-2 : Int32)))).2))) ((ocO n fk ((ftO n fk fa ff 24 0 ((fun _ => (-2 : Int32))) ((fun _ => (-2 : Int32)))).1) ((ftO n fk fa ff 24 0 ((fun _ => (-2 : Int32))) ((fun _ => (-2 : Int32)))).2) 24 0 ov)) ((odO (((ftO n fk fa ff 24 0 ((fun _ => (-2 : Int32))) ((fun _ => (-2 : Int32)))).1)) (((ftO n fk fa ff 24 0 ((fun _ => (-2 : Int32))) ((fun _ => (-2 : Int32)))).2)) 24 0 0 od).2) w ((odO (((ftO n fk fa ff 24 0 ((fun _ => (-2 : Int32))) ((fun _ => (-2 : Int32)))).1)) (((ftO n fk fa ff 24 0 ((fun _ => (-2 : Int32))) ((fun _ => (-2 : Int32)))).2)) 24 0 0 od).1) 0 (((((fun _ => (-1 : Int32)))))) (((((fun _ => (-1 : Int32))))))).2)))), (pq, .inl (cI, 24, .inl ((gSs (((((ftO n fk fa ff 24 0 ((fun _ => (-2 : Int32))) ((fun _ => (-2 : Int32)))).1)))) (((((ftO n fk fa ff 24 0 ((fun _ => (-2 : Int32))) ((fun _ => (-2 : Int32)))).2)))) ((gRs ((((ftO n fk fa ff 24 0 ((fun _ => (-2 : Int32))) ((fun _ => (-2 : Int32)))).1))) ((((ftO n fk fa ff 24 0 ((fun _ => (-2 : Int32))) ((fun _ => (-2 : Int32)))).2))) ((ocO n fk ((ftO n fk fa ff 24 0 ((fun _ => (-2 : Int32))) ((fun _ => (-2 : Int32)))).1) ((ftO n fk fa ff 24 0 ((fun _ => (-2 : Int32))) ((fun _ => (-2 : Int32)))).2) 24 0 ov)) ((odO (((ftO n fk fa ff 24 0 ((fun _ => (-2 : Int32))) ((fun _ => (-2 : Int32)))).1)) (((ftO n fk fa ff 24 0 ((fun _ => (-2 : Int32))) ((fun _ => (-2 : Int32)))).2)) 24 0 0 od).2) w ((odO (((ftO n fk fa ff 24 0 ((fun _ => (-2 : Int32))) ((fun _ => (-2 : Int32)))).1)) (((ftO n fk fa ff 24 0 ((fun _ => (-2 : Int32))) ((fun _ => (-2 : Int32)))).2)) 24 0 0 od).1) 0 (((((fun _ => (-1 : Int32)))))) (((((fun _ => (-1 : Int32))))))).1) (((odO (((ftO n fk fa ff 24 0 ((fun _ => (-2 : Int32))) ((fun _ => (-2 : Int32)))).1)) (((ftO n fk fa ff 24 0 ((fun _ => (-2 : Int32))) ((fun _ => (-2 : Int32)))).2)) 24 0 0 od).2)) ((odO (((ftO n fk fa ff 24 0 ((fun _ => (-2 : Int32))) ((fun _ => (-2 : Int32)))).1)) (((ftO n fk fa ff 24 0 ((fun _ => (-2 : Int32))) ((fun _ => (-2 : Int32)))).2)) 24 0 0 od).1) 0 ((((((fun _ => (-1 : Int32))))))) ((((((fun _ => (-1 : Int32))))))) ((0 : Int32))).2.1)))] := hD
  refine sm_rv (ws := [(pl, .inr (2, [.ref pf, .ref pa, .ref po, .ref pr, .ref ps, .ref pd, .ref ph, .ref pq, .int (nI ((odO (((ftO n fk fa ff 24 0 ((fun _ => (-2 : Int32))) ((fun _ => (-2 : Int32)))).1)) (((ftO n fk fa ff 24 0 ((fun _ => (-2 : Int32))) ((fun _ => (-2 : Int32)))).2)) 24 0 0 od).1)), .int (nI w), .int ((gSs (((((ftO n fk fa ff 24 0 ((fun _ => (-2 : Int32))) ((fun _ => (-2 : Int32)))).1)))) (((((ftO n fk fa ff 24 0 ((fun _ => (-2 : Int32))) ((fun _ => (-2 : Int32)))).2)))) ((gRs ((((ftO n fk fa ff 24 0 ((fun _ => (-2 : Int32))) ((fun _ => (-2 : Int32)))).1))) ((((ftO n fk fa ff 24 0 ((fun _ => (-2 : Int32))) ((fun _ => (-2 : Int32)))).2))) ((ocO n fk ((ftO n fk fa ff 24 0 ((fun _ => (-2 : Int32))) ((fun _ => (-2 : Int32)))).1) ((ftO n fk fa ff 24 0 ((fun _ => (-2 : Int32))) ((fun _ => (-2 : Int32)))).2) 24 0 ov)) ((odO (((ftO n fk fa ff 24 0 ((fun _ => (-2 : Int32))) ((fun _ => (-2 : Int32)))).1)) (((ftO n fk fa ff 24 0 ((fun _ => (-2 : Int32))) ((fun _ => (-2 : Int32)))).2)) 24 0 0 od).2) w ((odO (((ftO n fk fa ff 24 0 ((fun _ => (-2 : Int32))) ((fun _ => (-2 : Int32)))).1)) (((ftO n fk fa ff 24 0 ((fun _ => (-2 : Int32))) ((fun _ => (-2 : Int32)))).2)) 24 0 0 od).1) 0 (((((fun _ => (-1 : Int32)))))) (((((fun _ => (-1 : Int32))))))).1) (((odO (((ftO n fk fa ff 24 0 ((fun _ => (-2 : Int32))) ((fun _ => (-2 : Int32)))).1)) (((ftO n fk fa ff 24 0 ((fun _ => (-2 : Int32))) ((fun _ => (-2 : Int32)))).2)) 24 0 0 od).2)) ((odO (((ftO n fk fa ff 24 0 ((fun _ => (-2 : Int32))) ((fun _ => (-2 : Int32)))).1)) (((ftO n fk fa ff 24 0 ((fun _ => (-2 : Int32))) ((fun _ => (-2 : Int32)))).2)) 24 0 0 od).1) 0 ((((((fun _ => (-1 : Int32))))))) ((((((fun _ => (-1 : Int32))))))) ((0 : Int32))).2.2)])), (pf, .inl (cI, 24, .inl ((((((ftO n fk fa ff 24 0 ((fun _ => (-2 : Int32))) ((fun _ => (-2 : Int32)))).1))))))), (pa, .inl (cI, 24, .inl ((((((ftO n fk fa ff 24 0 ((fun _ => (-2 : Int32))) ((fun _ => (-2 : Int32)))).2))))))), (po, .inl (cZ, 24, .inl ((((ocO n fk ((ftO n fk fa ff 24 0 ((fun _ => (-2 : Int32))) ((fun _ => (-2 : Int32)))).1) ((ftO n fk fa ff 24 0 ((fun _ => (-2 : Int32))) ((fun _ => (-2 : Int32)))).2) 24 0 ov)))))), (pr, .inl (cI, 24, .inl (((gRs ((((ftO n fk fa ff 24 0 ((fun _ => (-2 : Int32))) ((fun _ => (-2 : Int32)))).1))) ((((ftO n fk fa ff 24 0 ((fun _ => (-2 : Int32))) ((fun _ => (-2 : Int32)))).2))) ((ocO n fk ((ftO n fk fa ff 24 0 ((fun _ => (-2 : Int32))) ((fun _ => (-2 : Int32)))).1) ((ftO n fk fa ff 24 0 ((fun _ => (-2 : Int32))) ((fun _ => (-2 : Int32)))).2) 24 0 ov)) ((odO (((ftO n fk fa ff 24 0 ((fun _ => (-2 : Int32))) ((fun _ => (-2 : Int32)))).1)) (((ftO n fk fa ff 24 0 ((fun _ => (-2 : Int32))) ((fun _ => (-2 : Int32)))).2)) 24 0 0 od).2) w ((odO (((ftO n fk fa ff 24 0 ((fun _ => (-2 : Int32))) ((fun _ => (-2 : Int32)))).1)) (((ftO n fk fa ff 24 0 ((fun _ => (-2 : Int32))) ((fun _ => (-2 : Int32)))).2)) 24 0 0 od).1) 0 (((((fun _ => (-1 : Int32)))))) (((((fun _ => (-1 : Int32))))))).1)))), (ps, .inl (cI, 24, .inl ((gSs (((((ftO n fk fa ff 24 0 ((fun _ => (-2 : Int32))) ((fun _ => (-2 : Int32)))).1)))) (((((ftO n fk fa ff 24 0 ((fun _ => (-2 : Int32))) ((fun _ => (-2 : Int32)))).2)))) ((gRs ((((ftO n fk fa ff 24 0 ((fun _ => (-2 : Int32))) ((fun _ => (-2 : Int32)))).1))) ((((ftO n fk fa ff 24 0 ((fun _ => (-2 : Int32))) ((fun _ => (-2 : Int32)))).2))) ((ocO n fk ((ftO n fk fa ff 24 0 ((fun _ => (-2 : Int32))) ((fun _ => (-2 : Int32)))).1) ((ftO n fk fa ff 24 0 ((fun _ => (-2 : Int32))) ((fun _ => (-2 : Int32)))).2) 24 0 ov)) ((odO (((ftO n fk fa ff 24 0 ((fun _ => (-2 : Int32))) ((fun _ => (-2 : Int32)))).1)) (((ftO n fk fa ff 24 0 ((fun _ => (-2 : Int32))) ((fun _ => (-2 : Int32)))).2)) 24 0 0 od).2) w ((odO (((ftO n fk fa ff 24 0 ((fun _ => (-2 : Int32))) ((fun _ => (-2 : Int32)))).1)) (((ftO n fk fa ff 24 0 ((fun _ => (-2 : Int32))) ((fun _ => (-2 : Int32)))).2)) 24 0 0 od).1) 0 (((((fun _ => (-1 : Int32)))))) (((((fun _ => (-1 : Int32))))))).1) (((odO (((ftO n fk fa ff 24 0 ((fun _ => (-2 : Int32))) ((fun _ => (-2 : Int32)))).1)) (((ftO n fk fa ff 24 0 ((fun _ => (-2 : Int32))) ((fun _ => (-2 : Int32)))).2)) 24 0 0 od).2)) ((odO (((ftO n fk fa ff 24 0 ((fun _ => (-2 : Int32))) ((fun _ => (-2 : Int32)))).1)) (((ftO n fk fa ff 24 0 ((fun _ => (-2 : Int32))) ((fun _ => (-2 : Int32)))).2)) 24 0 0 od).1) 0 ((((((fun _ => (-1 : Int32))))))) ((((((fun _ => (-1 : Int32))))))) ((0 : Int32))).1))), (pd, .inl (cI, 24, .inl ((((odO (((ftO n fk fa ff 24 0 ((fun _ => (-2 : Int32))) ((fun _ => (-2 : Int32)))).1)) (((ftO n fk fa ff 24 0 ((fun _ => (-2 : Int32))) ((fun _ => (-2 : Int32)))).2)) 24 0 0 od).2))))), (ph, .inl (cI, 8, .inl (((gRs ((((ftO n fk fa ff 24 0 ((fun _ => (-2 : Int32))) ((fun _ => (-2 : Int32)))).1))) ((((ftO n fk fa ff 24 0 ((fun _ => (-2 : Int32))) ((fun _ => (-2 : Int32)))).2))) ((ocO n fk ((ftO n fk fa ff 24 0 ((fun _ => (-2 : Int32))) ((fun _ => (-2 : Int32)))).1) ((ftO n fk fa ff 24 0 ((fun _ => (-2 : Int32))) ((fun _ => (-2 : Int32)))).2) 24 0 ov)) ((odO (((ftO n fk fa ff 24 0 ((fun _ => (-2 : Int32))) ((fun _ => (-2 : Int32)))).1)) (((ftO n fk fa ff 24 0 ((fun _ => (-2 : Int32))) ((fun _ => (-2 : Int32)))).2)) 24 0 0 od).2) w ((odO (((ftO n fk fa ff 24 0 ((fun _ => (-2 : Int32))) ((fun _ => (-2 : Int32)))).1)) (((ftO n fk fa ff 24 0 ((fun _ => (-2 : Int32))) ((fun _ => (-2 : Int32)))).2)) 24 0 0 od).1) 0 (((((fun _ => (-1 : Int32)))))) (((((fun _ => (-1 : Int32))))))).2)))), (pq, .inl (cI, 24, .inl ((gSs (((((ftO n fk fa ff 24 0 ((fun _ => (-2 : Int32))) ((fun _ => (-2 : Int32)))).1)))) (((((ftO n fk fa ff 24 0 ((fun _ => (-2 : Int32))) ((fun _ => (-2 : Int32)))).2)))) ((gRs ((((ftO n fk fa ff 24 0 ((fun _ => (-2 : Int32))) ((fun _ => (-2 : Int32)))).1))) ((((ftO n fk fa ff 24 0 ((fun _ => (-2 : Int32))) ((fun _ => (-2 : Int32)))).2))) ((ocO n fk ((ftO n fk fa ff 24 0 ((fun _ => (-2 : Int32))) ((fun _ => (-2 : Int32)))).1) ((ftO n fk fa ff 24 0 ((fun _ => (-2 : Int32))) ((fun _ => (-2 : Int32)))).2) 24 0 ov)) ((odO (((ftO n fk fa ff 24 0 ((fun _ => (-2 : Int32))) ((fun _ => (-2 : Int32)))).1)) (((ftO n fk fa ff 24 0 ((fun _ => (-2 : Int32))) ((fun _ => (-2 : Int32)))).2)) 24 0 0 od).2) w ((odO (((ftO n fk fa ff 24 0 ((fun _ => (-2 : Int32))) ((fun _ => (-2 : Int32)))).1)) (((ftO n fk fa ff 24 0 ((fun _ => (-2 : Int32))) ((fun _ => (-2 : Int32)))).2)) 24 0 0 od).1) 0 (((((fun _ => (-1 : Int32)))))) (((((fun _ => (-1 : Int32))))))).1) (((odO (((ftO n fk fa ff 24 0 ((fun _ => (-2 : Int32))) ((fun _ => (-2 : Int32)))).1)) (((ftO n fk fa ff 24 0 ((fun _ => (-2 : Int32))) ((fun _ => (-2 : Int32)))).2)) 24 0 0 od).2)) ((odO (((ftO n fk fa ff 24 0 ((fun _ => (-2 : Int32))) ((fun _ => (-2 : Int32)))).1)) (((ftO n fk fa ff 24 0 ((fun _ => (-2 : Int32))) ((fun _ => (-2 : Int32)))).2)) 24 0 0 od).1) 0 ((((((fun _ => (-1 : Int32))))))) ((((((fun _ => (-1 : Int32))))))) ((0 : Int32))).2.1))), (r, .inr (0, [.ref rk, .ref ra, .ref rb, .ref rc, .int (nI n)])), (rk, .inl (cI, 60, .inl fk)), (ra, .inl (cI, 60, .inl fa)), (rb, .inl (cI, 60, .inl fb)), (rc, .inl (cI, 60, .inl fc)), (lv, .inr (1, [.ref lf, .int stl])), (lf, .inl (cI, 61, .inl ff))]) hx hb hr hlocks hK (hP.sub [7, 8, 9, 10, 11, 12, 13, 14, 15, 2, 3, 4, 5, 6, 0, 1] rfl) (hD.sub [7, 8, 9, 10, 11, 12, 13, 14, 15, 2, 3, 4, 5, 6, 0, 1] (by decide) rfl) hS ?_ d_Plc_assign_28
  rfl
end
