section
-- ===== PART A: goes FIRST, ahead of the names: the tables' words, and 'selects' of the private methods out of them =====
/-- a private method of a class that the tables say can be made, by its rows of tables_1 -/
def lw_okq (q : MethodName × Nat) : Prop := (q.1.cls ≠ "java/lang/invoke/MethodHandle" ∧ q.1.cls ≠ "java/lang/invoke/VarHandle") ∧ Cond.instantiable q.1.cls q.2 ∈ tables_1 ∧ Cond.privateMethod q.1 ∈ tables_1 ∧ Cond.instanceMethod q.1 ∈ tables_1
theorem lw_p0 : lw_okq (⟨"ScanMill", "forgetScan", "()V"⟩, 7) := ⟨⟨by decide +kernel, by decide +kernel⟩, List.mem_of_getElem? (i := 16) (by decide +kernel), List.mem_of_getElem? (i := 168) (by decide +kernel), List.mem_of_getElem? (i := 169) (by decide +kernel)⟩
theorem lw_p1 : lw_okq (⟨"ScanMill$Liveness", "sweep", "(LScanMill$Row;)Z"⟩, 2) := ⟨⟨by decide +kernel, by decide +kernel⟩, List.mem_of_getElem? (i := 47) (by decide +kernel), List.mem_of_getElem? (i := 203) (by decide +kernel), List.mem_of_getElem? (i := 204) (by decide +kernel)⟩
theorem lw_p2 : lw_okq (⟨"ScanMill$Row", "holds", "(I)Z"⟩, 5) := ⟨⟨by decide +kernel, by decide +kernel⟩, List.mem_of_getElem? (i := 24) (by decide +kernel), List.mem_of_getElem? (i := 219) (by decide +kernel), List.mem_of_getElem? (i := 220) (by decide +kernel)⟩
theorem lw_p3 : lw_okq (⟨"ScanMill$Liveness", "setBehind", "(LScanMill$Row;I)I"⟩, 2) := ⟨⟨by decide +kernel, by decide +kernel⟩, List.mem_of_getElem? (i := 47) (by decide +kernel), List.mem_of_getElem? (i := 231) (by decide +kernel), List.mem_of_getElem? (i := 232) (by decide +kernel)⟩
theorem lw_p4 : lw_okq (⟨"ScanMill$Liveness", "setAhead", "(I)I"⟩, 2) := ⟨⟨by decide +kernel, by decide +kernel⟩, List.mem_of_getElem? (i := 47) (by decide +kernel), List.mem_of_getElem? (i := 240) (by decide +kernel), List.mem_of_getElem? (i := 241) (by decide +kernel)⟩
theorem lw_p5 : lw_okq (⟨"ScanMill$Places", "forget", "(I)V"⟩, 11) := ⟨⟨by decide +kernel, by decide +kernel⟩, List.mem_of_getElem? (i := 60) (by decide +kernel), List.mem_of_getElem? (i := 252) (by decide +kernel), List.mem_of_getElem? (i := 253) (by decide +kernel)⟩
theorem lw_p6 : lw_okq (⟨"ScanMill$Places", "findTimes", "(LScanMill$Row;LScanMill$Liveness;)V"⟩, 11) := ⟨⟨by decide +kernel, by decide +kernel⟩, List.mem_of_getElem? (i := 60) (by decide +kernel), List.mem_of_getElem? (i := 261) (by decide +kernel), List.mem_of_getElem? (i := 262) (by decide +kernel)⟩
theorem lw_p7 : lw_okq (⟨"ScanMill$Places", "note", "(II)V"⟩, 11) := ⟨⟨by decide +kernel, by decide +kernel⟩, List.mem_of_getElem? (i := 60) (by decide +kernel), List.mem_of_getElem? (i := 269) (by decide +kernel), List.mem_of_getElem? (i := 270) (by decide +kernel)⟩
theorem lw_p8 : lw_okq (⟨"ScanMill$Places", "findOverCall", "(LScanMill$Row;)V"⟩, 11) := ⟨⟨by decide +kernel, by decide +kernel⟩, List.mem_of_getElem? (i := 60) (by decide +kernel), List.mem_of_getElem? (i := 276) (by decide +kernel), List.mem_of_getElem? (i := 277) (by decide +kernel)⟩
theorem lw_p9 : lw_okq (⟨"ScanMill$Places", "orderByFirst", "()V"⟩, 11) := ⟨⟨by decide +kernel, by decide +kernel⟩, List.mem_of_getElem? (i := 60) (by decide +kernel), List.mem_of_getElem? (i := 285) (by decide +kernel), List.mem_of_getElem? (i := 286) (by decide +kernel)⟩
theorem lw_p10 : lw_okq (⟨"ScanMill$Places", "giveRegisters", "()V"⟩, 11) := ⟨⟨by decide +kernel, by decide +kernel⟩, List.mem_of_getElem? (i := 60) (by decide +kernel), List.mem_of_getElem? (i := 293) (by decide +kernel), List.mem_of_getElem? (i := 294) (by decide +kernel)⟩
theorem lw_p11 : lw_okq (⟨"ScanMill$Places", "giveRegister", "(I)V"⟩, 11) := ⟨⟨by decide +kernel, by decide +kernel⟩, List.mem_of_getElem? (i := 60) (by decide +kernel), List.mem_of_getElem? (i := 301) (by decide +kernel), List.mem_of_getElem? (i := 302) (by decide +kernel)⟩
theorem lw_p12 : lw_okq (⟨"ScanMill$Places", "leastFree", "([III)I"⟩, 11) := ⟨⟨by decide +kernel, by decide +kernel⟩, List.mem_of_getElem? (i := 60) (by decide +kernel), List.mem_of_getElem? (i := 305) (by decide +kernel), List.mem_of_getElem? (i := 306) (by decide +kernel)⟩
theorem lw_p13 : lw_okq (⟨"ScanMill$Places", "takeRegister", "(II)V"⟩, 11) := ⟨⟨by decide +kernel, by decide +kernel⟩, List.mem_of_getElem? (i := 60) (by decide +kernel), List.mem_of_getElem? (i := 313) (by decide +kernel), List.mem_of_getElem? (i := 314) (by decide +kernel)⟩
theorem lw_p14 : lw_okq (⟨"ScanMill$Places", "registerHeldLongest", "()I"⟩, 11) := ⟨⟨by decide +kernel, by decide +kernel⟩, List.mem_of_getElem? (i := 60) (by decide +kernel), List.mem_of_getElem? (i := 317) (by decide +kernel), List.mem_of_getElem? (i := 318) (by decide +kernel)⟩
theorem lw_p15 : lw_okq (⟨"ScanMill$Places", "giveSlots", "()V"⟩, 11) := ⟨⟨by decide +kernel, by decide +kernel⟩, List.mem_of_getElem? (i := 60) (by decide +kernel), List.mem_of_getElem? (i := 321) (by decide +kernel), List.mem_of_getElem? (i := 322) (by decide +kernel)⟩
def lw_privs_1 : List (MethodName × Nat) := [(⟨"ScanMill", "forgetScan", "()V"⟩, 7), (⟨"ScanMill$Liveness", "sweep", "(LScanMill$Row;)Z"⟩, 2), (⟨"ScanMill$Row", "holds", "(I)Z"⟩, 5), (⟨"ScanMill$Liveness", "setBehind", "(LScanMill$Row;I)I"⟩, 2), (⟨"ScanMill$Liveness", "setAhead", "(I)I"⟩, 2), (⟨"ScanMill$Places", "forget", "(I)V"⟩, 11), (⟨"ScanMill$Places", "findTimes", "(LScanMill$Row;LScanMill$Liveness;)V"⟩, 11), (⟨"ScanMill$Places", "note", "(II)V"⟩, 11), (⟨"ScanMill$Places", "findOverCall", "(LScanMill$Row;)V"⟩, 11), (⟨"ScanMill$Places", "orderByFirst", "()V"⟩, 11), (⟨"ScanMill$Places", "giveRegisters", "()V"⟩, 11), (⟨"ScanMill$Places", "giveRegister", "(I)V"⟩, 11), (⟨"ScanMill$Places", "leastFree", "([III)I"⟩, 11), (⟨"ScanMill$Places", "takeRegister", "(II)V"⟩, 11), (⟨"ScanMill$Places", "registerHeldLongest", "()I"⟩, 11), (⟨"ScanMill$Places", "giveSlots", "()V"⟩, 11)]
theorem lw_r1 : ∀ q ∈ lw_privs_1, lw_okq q := List.forall_mem_cons.mpr ⟨lw_p0, List.forall_mem_cons.mpr ⟨lw_p1, List.forall_mem_cons.mpr ⟨lw_p2, List.forall_mem_cons.mpr ⟨lw_p3, List.forall_mem_cons.mpr ⟨lw_p4, List.forall_mem_cons.mpr ⟨lw_p5, List.forall_mem_cons.mpr ⟨lw_p6, List.forall_mem_cons.mpr ⟨lw_p7, List.forall_mem_cons.mpr ⟨lw_p8, List.forall_mem_cons.mpr ⟨lw_p9, List.forall_mem_cons.mpr ⟨lw_p10, List.forall_mem_cons.mpr ⟨lw_p11, List.forall_mem_cons.mpr ⟨lw_p12, List.forall_mem_cons.mpr ⟨lw_p13, List.forall_mem_cons.mpr ⟨lw_p14, List.forall_mem_cons.mpr ⟨lw_p15, fun _ h => absurd h List.not_mem_nil⟩⟩⟩⟩⟩⟩⟩⟩⟩⟩⟩⟩⟩⟩⟩⟩
theorem lw_p16 : lw_okq (⟨"ScanMill$Places", "giveSlot", "(I)V"⟩, 11) := ⟨⟨by decide +kernel, by decide +kernel⟩, List.mem_of_getElem? (i := 60) (by decide +kernel), List.mem_of_getElem? (i := 325) (by decide +kernel), List.mem_of_getElem? (i := 326) (by decide +kernel)⟩
theorem lw_p17 : lw_okq (⟨"ScanMill", "runState", "()I"⟩, 7) := ⟨⟨by decide +kernel, by decide +kernel⟩, List.mem_of_getElem? (i := 16) (by decide +kernel), List.mem_of_getElem? (i := 389) (by decide +kernel), List.mem_of_getElem? (i := 390) (by decide +kernel)⟩
theorem lw_p18 : lw_okq (⟨"java/lang/Throwable", "fillInStackTrace", "(I)Ljava/lang/Throwable;"⟩, 6) := ⟨⟨by decide +kernel, by decide +kernel⟩, List.mem_of_getElem? (i := 440) (by decide +kernel), List.mem_of_getElem? (i := 438) (by decide +kernel), List.mem_of_getElem? (i := 439) (by decide +kernel)⟩
theorem lw_p19 : lw_okq (⟨"ScanMill$Machine", "write", "(LScanMill$Places;II)V"⟩, 7) := ⟨⟨by decide +kernel, by decide +kernel⟩, List.mem_of_getElem? (i := 101) (by decide +kernel), List.mem_of_getElem? (i := 524) (by decide +kernel), List.mem_of_getElem? (i := 525) (by decide +kernel)⟩
theorem lw_p20 : lw_okq (⟨"ScanMill$Machine", "keep", "(I)V"⟩, 7) := ⟨⟨by decide +kernel, by decide +kernel⟩, List.mem_of_getElem? (i := 101) (by decide +kernel), List.mem_of_getElem? (i := 528) (by decide +kernel), List.mem_of_getElem? (i := 529) (by decide +kernel)⟩
theorem lw_p21 : lw_okq (⟨"ScanMillModel", "forget", "()V"⟩, 29) := ⟨⟨by decide +kernel, by decide +kernel⟩, List.mem_of_getElem? (i := 601) (by decide +kernel), List.mem_of_getElem? (i := 709) (by decide +kernel), List.mem_of_getElem? (i := 710) (by decide +kernel)⟩
theorem lw_p22 : lw_okq (⟨"ScanMillModel", "lives", "(II)Z"⟩, 29) := ⟨⟨by decide +kernel, by decide +kernel⟩, List.mem_of_getElem? (i := 601) (by decide +kernel), List.mem_of_getElem? (i := 725) (by decide +kernel), List.mem_of_getElem? (i := 726) (by decide +kernel)⟩
theorem lw_p23 : lw_okq (⟨"ScanMillModel", "goTo", "(I)V"⟩, 29) := ⟨⟨by decide +kernel, by decide +kernel⟩, List.mem_of_getElem? (i := 601) (by decide +kernel), List.mem_of_getElem? (i := 729) (by decide +kernel), List.mem_of_getElem? (i := 730) (by decide +kernel)⟩
theorem lw_p24 : lw_okq (⟨"ScanMillModel", "reads", "(II)Z"⟩, 29) := ⟨⟨by decide +kernel, by decide +kernel⟩, List.mem_of_getElem? (i := 601) (by decide +kernel), List.mem_of_getElem? (i := 733) (by decide +kernel), List.mem_of_getElem? (i := 734) (by decide +kernel)⟩
theorem lw_p25 : lw_okq (⟨"ScanMillModel", "sets", "(II)Z"⟩, 29) := ⟨⟨by decide +kernel, by decide +kernel⟩, List.mem_of_getElem? (i := 601) (by decide +kernel), List.mem_of_getElem? (i := 737) (by decide +kernel), List.mem_of_getElem? (i := 738) (by decide +kernel)⟩
theorem lw_p26 : lw_okq (⟨"ScanMillModel", "findTimes", "(I)V"⟩, 29) := ⟨⟨by decide +kernel, by decide +kernel⟩, List.mem_of_getElem? (i := 601) (by decide +kernel), List.mem_of_getElem? (i := 745) (by decide +kernel), List.mem_of_getElem? (i := 746) (by decide +kernel)⟩
theorem lw_p27 : lw_okq (⟨"ScanMillModel", "time", "(II)V"⟩, 29) := ⟨⟨by decide +kernel, by decide +kernel⟩, List.mem_of_getElem? (i := 601) (by decide +kernel), List.mem_of_getElem? (i := 749) (by decide +kernel), List.mem_of_getElem? (i := 750) (by decide +kernel)⟩
theorem lw_p28 : lw_okq (⟨"ScanMillModel", "startOver", "()V"⟩, 29) := ⟨⟨by decide +kernel, by decide +kernel⟩, List.mem_of_getElem? (i := 601) (by decide +kernel), List.mem_of_getElem? (i := 753) (by decide +kernel), List.mem_of_getElem? (i := 754) (by decide +kernel)⟩
theorem lw_p29 : lw_okq (⟨"ScanMillModel", "nextOne", "(Z)I"⟩, 29) := ⟨⟨by decide +kernel, by decide +kernel⟩, List.mem_of_getElem? (i := 601) (by decide +kernel), List.mem_of_getElem? (i := 757) (by decide +kernel), List.mem_of_getElem? (i := 758) (by decide +kernel)⟩
theorem lw_p30 : lw_okq (⟨"ScanMillModel", "giveRegister", "(I)V"⟩, 29) := ⟨⟨by decide +kernel, by decide +kernel⟩, List.mem_of_getElem? (i := 601) (by decide +kernel), List.mem_of_getElem? (i := 761) (by decide +kernel), List.mem_of_getElem? (i := 762) (by decide +kernel)⟩
theorem lw_p31 : lw_okq (⟨"ScanMillModel", "giveSlot", "(I)V"⟩, 29) := ⟨⟨by decide +kernel, by decide +kernel⟩, List.mem_of_getElem? (i := 601) (by decide +kernel), List.mem_of_getElem? (i := 765) (by decide +kernel), List.mem_of_getElem? (i := 766) (by decide +kernel)⟩
def lw_privs_2 : List (MethodName × Nat) := [(⟨"ScanMill$Places", "giveSlot", "(I)V"⟩, 11), (⟨"ScanMill", "runState", "()I"⟩, 7), (⟨"java/lang/Throwable", "fillInStackTrace", "(I)Ljava/lang/Throwable;"⟩, 6), (⟨"ScanMill$Machine", "write", "(LScanMill$Places;II)V"⟩, 7), (⟨"ScanMill$Machine", "keep", "(I)V"⟩, 7), (⟨"ScanMillModel", "forget", "()V"⟩, 29), (⟨"ScanMillModel", "lives", "(II)Z"⟩, 29), (⟨"ScanMillModel", "goTo", "(I)V"⟩, 29), (⟨"ScanMillModel", "reads", "(II)Z"⟩, 29), (⟨"ScanMillModel", "sets", "(II)Z"⟩, 29), (⟨"ScanMillModel", "findTimes", "(I)V"⟩, 29), (⟨"ScanMillModel", "time", "(II)V"⟩, 29), (⟨"ScanMillModel", "startOver", "()V"⟩, 29), (⟨"ScanMillModel", "nextOne", "(Z)I"⟩, 29), (⟨"ScanMillModel", "giveRegister", "(I)V"⟩, 29), (⟨"ScanMillModel", "giveSlot", "(I)V"⟩, 29)]
theorem lw_r2 : ∀ q ∈ lw_privs_2, lw_okq q := List.forall_mem_cons.mpr ⟨lw_p16, List.forall_mem_cons.mpr ⟨lw_p17, List.forall_mem_cons.mpr ⟨lw_p18, List.forall_mem_cons.mpr ⟨lw_p19, List.forall_mem_cons.mpr ⟨lw_p20, List.forall_mem_cons.mpr ⟨lw_p21, List.forall_mem_cons.mpr ⟨lw_p22, List.forall_mem_cons.mpr ⟨lw_p23, List.forall_mem_cons.mpr ⟨lw_p24, List.forall_mem_cons.mpr ⟨lw_p25, List.forall_mem_cons.mpr ⟨lw_p26, List.forall_mem_cons.mpr ⟨lw_p27, List.forall_mem_cons.mpr ⟨lw_p28, List.forall_mem_cons.mpr ⟨lw_p29, List.forall_mem_cons.mpr ⟨lw_p30, List.forall_mem_cons.mpr ⟨lw_p31, fun _ h => absurd h List.not_mem_nil⟩⟩⟩⟩⟩⟩⟩⟩⟩⟩⟩⟩⟩⟩⟩⟩
theorem lw_p32 : lw_okq (⟨"ScanMillModel", "isEnd", "()Z"⟩, 29) := ⟨⟨by decide +kernel, by decide +kernel⟩, List.mem_of_getElem? (i := 601) (by decide +kernel), List.mem_of_getElem? (i := 777) (by decide +kernel), List.mem_of_getElem? (i := 778) (by decide +kernel)⟩
theorem lw_p33 : lw_okq (⟨"ScanMillModel", "step", "()V"⟩, 29) := ⟨⟨by decide +kernel, by decide +kernel⟩, List.mem_of_getElem? (i := 601) (by decide +kernel), List.mem_of_getElem? (i := 785) (by decide +kernel), List.mem_of_getElem? (i := 786) (by decide +kernel)⟩
theorem lw_p34 : lw_okq (⟨"ScanMillModel", "get", "(I)I"⟩, 29) := ⟨⟨by decide +kernel, by decide +kernel⟩, List.mem_of_getElem? (i := 601) (by decide +kernel), List.mem_of_getElem? (i := 789) (by decide +kernel), List.mem_of_getElem? (i := 790) (by decide +kernel)⟩
theorem lw_p35 : lw_okq (⟨"ScanMillModel", "set", "(II)V"⟩, 29) := ⟨⟨by decide +kernel, by decide +kernel⟩, List.mem_of_getElem? (i := 601) (by decide +kernel), List.mem_of_getElem? (i := 793) (by decide +kernel), List.mem_of_getElem? (i := 794) (by decide +kernel)⟩
def lw_privs_3 : List (MethodName × Nat) := [(⟨"ScanMillModel", "isEnd", "()Z"⟩, 29), (⟨"ScanMillModel", "step", "()V"⟩, 29), (⟨"ScanMillModel", "get", "(I)I"⟩, 29), (⟨"ScanMillModel", "set", "(II)V"⟩, 29)]
theorem lw_r3 : ∀ q ∈ lw_privs_3, lw_okq q := List.forall_mem_cons.mpr ⟨lw_p32, List.forall_mem_cons.mpr ⟨lw_p33, List.forall_mem_cons.mpr ⟨lw_p34, List.forall_mem_cons.mpr ⟨lw_p35, fun _ h => absurd h List.not_mem_nil⟩⟩⟩⟩
def lw_privs : List (MethodName × Nat) := lw_privs_1 ++ (lw_privs_2 ++ (lw_privs_3))
def lw_tbl : List Cond := k2_sels lw_privs ++ tables_1
theorem lw_privs_ok : ∀ q ∈ lw_privs, lw_okq q := by
  show ∀ q ∈ lw_privs_1 ++ (lw_privs_2 ++ (lw_privs_3)), lw_okq q
  exact List.forall_mem_append.mpr ⟨lw_r1, List.forall_mem_append.mpr ⟨lw_r2, lw_r3⟩⟩
-- ===== end of PART A; then your names; then what follows =====
end
section
/-! My own base: contracts over worlds as lists (a method that makes no cells), one row for entry, return, call. -/
/-- the words that stay, of all tables -/
def wG : List Cond := lw_tbl.filter goodWord
theorem wG_t {w : Cond} (i : Nat) (h : tables_1[i]? = some w) (g : goodWord w = true) : w ∈ wG := List.mem_filter.mpr ⟨List.mem_append_right _ (List.mem_of_getElem? h), g⟩
theorem wG_p {w : Cond} (i : Nat) (h : (k2_sels lw_privs)[i]? = some w) (g : goodWord w = true) : w ∈ wG := List.mem_filter.mpr ⟨List.mem_append_left _ (List.mem_of_getElem? h), g⟩
theorem wG_good {w : Cond} (h : w ∈ wG) : (w.onTables && w.keeps) = true ∨ ∃ ty, w = .arrayClass ty := good_of_word (List.mem_filter.mp h).2
theorem wG_GoodIn {w : Cond} (h : w ∈ wG) : GoodIn wG (w :: wG) := fun v hv => (List.mem_cons.mp hv).elim (fun e => by rw [e]; exact ⟨h, wG_good h⟩) (fun e => ⟨e, wG_good e⟩)
/-- the nest mates' links -/
def sm_N (U : State) : Prop := va_Nw (.methodLinkNest "ScanMill$Row" 40 ⟨"ScanMill", "isValue", "(I)Z"⟩ "ScanMill") U ∧ va_Nw (.methodLinkNest "ScanMill$Row" 43 ⟨"ScanMill", "isTarget", "(I)Z"⟩ "ScanMill") U ∧ va_Nw (.methodLinkNest "ScanMill$Liveness" 67 ⟨"ScanMill", "isValue", "(I)Z"⟩ "ScanMill") U ∧ va_Nw (.methodLinkNest "ScanMill$Places" 68 ⟨"ScanMill", "isValue", "(I)Z"⟩ "ScanMill") U
theorem sm_N.same {u U : State} (h : u.vm = U.vm) (hN : sm_N u) : sm_N U := ⟨hN.1.same rfl h, hN.2.1.same rfl h, hN.2.2.1.same rfl h, hN.2.2.2.same rfl h⟩
theorem sm_N.warm {s U : State} (hW : s.WarmedH U.vm) (hN : sm_N s) : sm_N U := ⟨va_Nw.warmM hW hN.1, va_Nw.warmM hW hN.2.1, va_Nw.warmM hW hN.2.2.1, va_Nw.warmM hW hN.2.2.2⟩
abbrev rmF (f lo : Nat) : Room := { frames := f, cells := 0, slots := 0, locals := lo }
abbrev sm_Pc (D : va_G) (cl : List vw_C) (tys : List (ClassId × FieldType)) (av : List Value) (ws : va_W) (sz : Nat) : Array Value → State → Prop :=
  va_Pc av (fun U => U.heap.size = sz ∧ va_P D cl ws U.heap ∧ va_K D cl tys U ∧ va_D (fun _ => True) ws ∧ sm_N U)
abbrev sm_B (D : va_G) (cl : List vw_C) (tys : List (ClassId × FieldType)) (A : Nat → Prop) (u : va_W) (t : State) : Prop := va_P D cl u t.heap ∧ va_K D cl tys t ∧ va_D A u
def sm_I (l : Launch) (y : MethodName) (cc : ByteArray) (maxL : Nat) (ret : Option FieldType) (rm : Room) (D : va_G) (cl : List vw_C) (tys : List (ClassId × FieldType)) (av : List Value) (ws : va_W) (post : Int32 → va_W → Prop) : Prop :=
  ∀ sz : Nat, Met l y (.code y cc maxL ret :: wG) rm (sm_Pc D cl tys av ws sz) (va_Qi post (sm_B D cl tys (va_A ws sz)) (va_A ws sz)) 0 0 (va_A ws sz)
def sm_V (l : Launch) (y : MethodName) (cc : ByteArray) (maxL : Nat) (ret : Option FieldType) (rm : Room) (D : va_G) (cl : List vw_C) (tys : List (ClassId × FieldType)) (av : List Value) (ws : va_W) (post : va_W → Prop) : Prop :=
  ∀ sz : Nat, Met l y (.code y cc maxL ret :: wG) rm (sm_Pc D cl tys av ws sz) (va_Qv post (sm_B D cl tys (va_A ws sz)) (va_A ws sz)) 0 0 (va_A ws sz)
theorem sm_I.at {l : Launch} {y : MethodName} {cc : ByteArray} {maxL : Nat} {ret : Option FieldType} {rm : Room} {D : va_G} {cl : List vw_C} {tys : List (ClassId × FieldType)} {av : List Value} {ws : va_W} {post : Int32 → va_W → Prop} (h : sm_I l y cc maxL ret rm D cl tys av ws post) (sz : Nat) : Met l y (.code y cc maxL ret :: wG) rm (sm_Pc D cl tys av ws sz) (va_Qi post (sm_B D cl tys (va_A ws sz)) (va_A ws sz)) 0 0 (va_A ws sz) := h sz
theorem sm_I.mk {l : Launch} {y : MethodName} {rm : Room} {D : va_G} {cl : List vw_C} {tys : List (ClassId × FieldType)} {av : List Value} {ws : va_W} {post : Int32 → va_W → Prop} {cc : ByteArray} {maxL : Nat} {ret : Option FieldType}
    (hy : plainName y.cls = true) (hlen : (lg_sl av).length ≤ maxL)
    (body : ∀ (p : Program) (e : Env) (s : State) (m : MethodId) (below : List Frame) (meth : Method) (c : Code) (A : Nat → Prop) (ls : Array Slot), p.tables.exec = Jvm.exec → c.code = cc → meth.sig.returnType = ret → (∀ x ∈ wG, x.before av.toArray s = true) → s.vm.findClass y.cls = some m.cls → meth.locks = false → c.maxLocals = maxL → meth.name = y.name → va_P D cl ws s.heap → va_K D cl tys s → va_D A ws → (∀ q, s.heap.size ≤ q → A q) → va_S A s.heap s.heap [] → sm_N s → lv_has ls maxL (lv_args 0 av) → W p l e rm s m av.toArray below meth c s.heap [] 0 0 (MQ below (va_Qi post (sm_B D cl tys A) A) av.toArray s 0 0 A) (F0 m 0 ls [])) : sm_I l y cc maxL ret rm D cl tys av ws post := by
  intro sz
  refine Met.ofW (cc := cc) (maxL := maxL) (ret := ret) hy rfl ?_
  intro p e s m args below meth c s₁ B hml hv
  obtain ⟨rfl, hsz, hP, hK, hD0, hN⟩ := hv
  subst hsz
  have hl := lv_entry av (n := maxL) hlen
  rw [lg_entry_eq]
  exact body p e s m below meth c (va_A ws s.heap.size) _ B.exec B.bytes B.returns (fun x hx => atoms_spec (ws := .code y cc maxL ret :: wG) B.pre x (List.mem_cons_of_mem _ hx)) (findClass_of_methodNamed B.named) B.notSynchronized hml (name_of_methodNamed B.named B.method).1 hP hK (hD0.self (sz := s.heap.size)) (fun q h => Or.inr h) va_S.rf hN hl
theorem sm_V.at {l : Launch} {y : MethodName} {cc : ByteArray} {maxL : Nat} {ret : Option FieldType} {rm : Room} {D : va_G} {cl : List vw_C} {tys : List (ClassId × FieldType)} {av : List Value} {ws : va_W} {post : va_W → Prop} (h : sm_V l y cc maxL ret rm D cl tys av ws post) (sz : Nat) : Met l y (.code y cc maxL ret :: wG) rm (sm_Pc D cl tys av ws sz) (va_Qv post (sm_B D cl tys (va_A ws sz)) (va_A ws sz)) 0 0 (va_A ws sz) := h sz
theorem sm_V.mk {l : Launch} {y : MethodName} {rm : Room} {D : va_G} {cl : List vw_C} {tys : List (ClassId × FieldType)} {av : List Value} {ws : va_W} {post : va_W → Prop} {cc : ByteArray} {maxL : Nat} {ret : Option FieldType}
    (hy : plainName y.cls = true) (hlen : (lg_sl av).length ≤ maxL)
    (body : ∀ (p : Program) (e : Env) (s : State) (m : MethodId) (below : List Frame) (meth : Method) (c : Code) (A : Nat → Prop) (ls : Array Slot), p.tables.exec = Jvm.exec → c.code = cc → meth.sig.returnType = ret → (∀ x ∈ wG, x.before av.toArray s = true) → s.vm.findClass y.cls = some m.cls → meth.locks = false → c.maxLocals = maxL → meth.name = y.name → va_P D cl ws s.heap → va_K D cl tys s → va_D A ws → (∀ q, s.heap.size ≤ q → A q) → va_S A s.heap s.heap [] → sm_N s → lv_has ls maxL (lv_args 0 av) → W p l e rm s m av.toArray below meth c s.heap [] 0 0 (MQ below (va_Qv post (sm_B D cl tys A) A) av.toArray s 0 0 A) (F0 m 0 ls [])) : sm_V l y cc maxL ret rm D cl tys av ws post := by
  intro sz
  refine Met.ofW (cc := cc) (maxL := maxL) (ret := ret) hy rfl ?_
  intro p e s m args below meth c s₁ B hml hv
  obtain ⟨rfl, hsz, hP, hK, hD0, hN⟩ := hv
  subst hsz
  have hl := lv_entry av (n := maxL) hlen
  rw [lg_entry_eq]
  exact body p e s m below meth c (va_A ws s.heap.size) _ B.exec B.bytes B.returns (fun x hx => atoms_spec (ws := .code y cc maxL ret :: wG) B.pre x (List.mem_cons_of_mem _ hx)) (findClass_of_methodNamed B.named) B.notSynchronized hml (name_of_methodNamed B.named B.method).1 hP hK (hD0.self (sz := s.heap.size)) (fun q h => Or.inr h) va_S.rf hN hl
theorem sm_blind {D : va_G} {cl : List vw_C} {tys : List (ClassId × FieldType)} {av : List Value} {ws : va_W} {sz : Nat} : FrameBlind (sm_Pc D cl tys av ws sz) := fun a U g mk q => by
  obtain ⟨q0, q1, qP, qK, qD, qN⟩ := q
  exact ⟨q0, q1, qP, va_K.moved (u := U) (U := U.calling g mk a) (Vm.Alike.refl U.vm) qK, qD, qN.same (u := U) (U := U.calling g mk a) rfl⟩
theorem sm_preS {s : State} {H : Heap} {D : va_G} {cl : List vw_C} {tys : List (ClassId × FieldType)} {A : Nat → Prop} {av : List Value} {ws wc : va_W} (hN : sm_N s) (hK : va_K D cl tys s) (hP : va_P D cl ws H) (hD : va_D A ws) (isC : List Nat) (hf : isC.filterMap (fun i => ws[i]?) = wc) (hC : isC.map (fun i => ws[i]?) = wc.map some) (hn : va_nd isC = true) : PreS s H (sm_Pc D cl tys av wc H.size) av :=
  ⟨sm_blind, fun U hU hW => ⟨rfl, by rw [hU], by rw [hU]; exact hP.sub isC hf, va_K.moved hW.alike hK, (hD.sub isC hn hC).weaken (fun _ _ _ _ => trivial), hN.warm hW⟩⟩
theorem sm_preV {s : State} {H : Heap} {D : va_G} {cl : List vw_C} {tys : List (ClassId × FieldType)} {A : Nat → Prop} {As : List Value} {ws wc : va_W} {b ci : Nat} {q : vw_C} {fs : List Value} (hN : sm_N s) (hK : va_K D cl tys s) (hP : va_P D cl ws H) (hD : va_D A ws) (isC : List Nat) (hf : isC.filterMap (fun i => ws[i]?) = wc) (hC : isC.map (fun i => ws[i]?) = wc.map some) (hn : va_nd isC = true) (q0 : Nat) (hc : cl[ci]? = some q) (he : ws[q0]? = some (b, .inr (ci, fs))) : PreV s H q.1 b (sm_Pc D cl tys (.ref b :: As) wc H.size) As :=
  ⟨sm_blind, va_recv hK hP hc he, fun U hU hW => ⟨rfl, by rw [hU], by rw [hU]; exact hP.sub isC hf, va_K.moved hW.alike hK, (hD.sub isC hn hC).weaken (fun _ _ _ _ => trivial), hN.warm hW⟩⟩
theorem sm_cB {R : Room} {s : State} {args : Array Value} {own : String} {index maxL : Nat} {y : MethodName} {bytes : ByteArray} {ret : Option FieldType} {rm : Room} (n : Nat) (ht : ∀ w ∈ wG, w.before args s = true) (hc : Cond.code y bytes maxL ret ∈ wG) (hini : Cond.initialized y.cls ∈ wG) (hl : Cond.methodLink own index y ∈ wG) (hrc : rm.cells = 0) (hrs : rm.slots = 0)
    (hd : y.cls ≠ "java/lang/invoke/MethodHandle" ∧ y.cls ≠ "java/lang/invoke/VarHandle" ∧ (parseMethodDescriptor y.desc).map (fun d => d.parameters.length) = some n) (hR : rm.frames + 1 ≤ R.frames ∧ 8 + (maxL + 11) + rm.locals ≤ R.locals) : CallB R s args own index y bytes maxL ret (.code y bytes maxL ret :: wG) rm 0 0 n :=
  callB_of n ht (wG_GoodIn hc) rfl hrc hrs (ht _ hini) (ht _ hl) hd hR
theorem sm_cV {R : Room} {s : State} {args : Array Value} {own C : String} {index maxL : Nat} {y : MethodName} {bytes : ByteArray} {ret : Option FieldType} {rm : Room} (n : Nat) (ht : ∀ w ∈ wG, w.before args s = true) (hc : Cond.code y bytes maxL ret ∈ wG) (hini : Cond.initialized y.cls ∈ wG) (hl : Cond.methodLink own index y ∈ wG) (hin : Cond.instanceMethod y ∈ wG) (hse : Cond.selects C y y ∈ wG) (hrc : rm.cells = 0) (hrs : rm.slots = 0)
    (hd : y.cls ≠ "java/lang/invoke/MethodHandle" ∧ y.cls ≠ "java/lang/invoke/VarHandle" ∧ (parseMethodDescriptor y.desc).map (fun d => d.parameters.length) = some n) (hR : rm.frames + 1 ≤ R.frames ∧ 8 + (maxL + 11) + rm.locals ≤ R.locals) : CallW R s args own C index y bytes maxL ret (.code y bytes maxL ret :: wG) rm 0 0 n :=
  ⟨sm_cB n ht hc hini hl hrc hrs hd hR, ht _ hin, ht _ hse⟩
theorem sm_cS {R : Room} {s : State} {args : Array Value} {own : String} {index maxL : Nat} {y : MethodName} {bytes : ByteArray} {ret : Option FieldType} {rm : Room} (n : Nat) (ht : ∀ w ∈ wG, w.before args s = true) (hc : Cond.code y bytes maxL ret ∈ wG) (hini : Cond.initialized y.cls ∈ wG) (hl : Cond.methodLink own index y ∈ wG) (hst : Cond.static y ∈ wG) (hrc : rm.cells = 0) (hrs : rm.slots = 0)
    (hd : y.cls ≠ "java/lang/invoke/MethodHandle" ∧ y.cls ≠ "java/lang/invoke/VarHandle" ∧ (parseMethodDescriptor y.desc).map (fun d => d.parameters.length) = some n) (hR : rm.frames + 1 ≤ R.frames ∧ 8 + (maxL + 11) + rm.locals ≤ R.locals) : CallB R s args own index y bytes maxL ret (.code y bytes maxL ret :: wG) rm 0 0 n ∧ (Cond.static y).before args s = true :=
  ⟨sm_cB n ht hc hini hl hrc hrs hd hR, ht _ hst⟩
theorem sm_cN {R : Room} {s : State} {args : Array Value} {own host : String} {index maxL : Nat} {y : MethodName} {bytes : ByteArray} {ret : Option FieldType} {rm : Room} (n : Nat) (ht : ∀ w ∈ wG, w.before args s = true) (hc : Cond.code y bytes maxL ret ∈ wG) (hini : Cond.initialized y.cls ∈ wG) (hl : va_Nw (.methodLinkNest own index y host) s) (hst : Cond.static y ∈ wG) (hrc : rm.cells = 0) (hrs : rm.slots = 0)
    (hd : y.cls ≠ "java/lang/invoke/MethodHandle" ∧ y.cls ≠ "java/lang/invoke/VarHandle" ∧ (parseMethodDescriptor y.desc).map (fun d => d.parameters.length) = some n) (hR : rm.frames + 1 ≤ R.frames ∧ 8 + (maxL + 11) + rm.locals ≤ R.locals) : va_CN R s args own index y host bytes maxL ret (.code y bytes maxL ret :: wG) rm 0 0 n ∧ (Cond.static y).before args s = true ∧ True :=
  ⟨va_cnB n ht (wG_GoodIn hc) rfl hrc hrs hl (ht _ hini) hd hR, ht _ hst, trivial⟩
section SMB
variable {p : Program} {l : Launch} {e : Env} {R : Room} {s : State} {m : MethodId} {args : Array Value} {below : List Frame} {meth : Method} {c : Code} {H : Heap} {locs : List Loc} {cells slots : Nat} {Q : State → Prop}
variable {cc : ByteArray} {pc : Nat} {ls : Array Slot} {rest st0 : List Value} {D : va_G} {cl : List vw_C} {A : Nat → Prop} {a : Nat} {tys : List (ClassId × FieldType)} {ws wc wr : va_W} {H0 : Heap} {av : Array Value}
theorem sm_re {x y : Int32} (h : x = y) (k : W p l e R s m args below meth c H locs cells slots Q (F0 m pc ls (.int y :: rest))) : W p l e R s m args below meth c H locs cells slots Q (F0 m pc ls (.int x :: rest)) := by rw [h]; exact k
theorem sm_goi {post : Int32 → va_W → Prop} (hr : va_Run p l e R s m args below meth c H locs cells slots 0 0 (F0 m pc ls st0) rest (va_Qi post (sm_B D cl tys (va_A wc H.size)) (va_A wc H.size) av) (va_A wc H.size)) (hP : va_P D cl ws H) (hD : va_D A ws) (hS : va_S A s.heap H locs) (hA : ∀ q, s.heap.size ≤ q → A q) (isC isR : List Nat) (hC : isC.map (fun i => ws[i]?) = wc.map some) (hR : isR.map (fun i => ws[i]?) = wr.map some) (hn : va_nd isR = true) (hdis : ∀ i ∈ isR, i ∉ isC)
    (kk : ∀ (r : Int32) (w1 : va_W) (H1 : Heap) (locs1 : List Loc), post r w1 → va_P D cl (wr ++ w1) H1 → va_D A (wr ++ w1) → va_S A s.heap H1 locs1 → W p l e R s m args below meth c H1 locs1 cells slots Q (F0 m (pc + 3) ls (.int r :: rest))) : W p l e R s m args below meth c H locs cells slots Q (F0 m pc ls st0) := by
  have hFc := va_free (wc := wc) hD hS hA isC hC
  refine va_calli hr hS (fun q _ h => hFc q h) hFc (fun r u t H1 locs1 ht hvm hw hB hz1 hk1 hS1 => ?_)
  obtain ⟨hP1, hK1, hD1⟩ := hB
  rw [ht] at hP1
  obtain ⟨hP2, hD2⟩ := va_join (wr := wr) (w1 := u) hP hD isC isR hC hR hn hdis hk1 hFc hP1 hD1
  exact kk r u H1 locs1 hw hP2 hD2 hS1
theorem sm_gov {post : va_W → Prop} (hr : va_Run p l e R s m args below meth c H locs cells slots 0 0 (F0 m pc ls st0) rest (va_Qv post (sm_B D cl tys (va_A wc H.size)) (va_A wc H.size) av) (va_A wc H.size)) (hP : va_P D cl ws H) (hD : va_D A ws) (hS : va_S A s.heap H locs) (hA : ∀ q, s.heap.size ≤ q → A q) (isC isR : List Nat) (hC : isC.map (fun i => ws[i]?) = wc.map some) (hR : isR.map (fun i => ws[i]?) = wr.map some) (hn : va_nd isR = true) (hdis : ∀ i ∈ isR, i ∉ isC)
    (kk : ∀ (w1 : va_W) (H1 : Heap) (locs1 : List Loc), post w1 → va_P D cl (wr ++ w1) H1 → va_D A (wr ++ w1) → va_S A s.heap H1 locs1 → W p l e R s m args below meth c H1 locs1 cells slots Q (F0 m (pc + 3) ls rest)) : W p l e R s m args below meth c H locs cells slots Q (F0 m pc ls st0) := by
  have hFc := va_free (wc := wc) hD hS hA isC hC
  refine va_callv hr hS (fun q _ h => hFc q h) hFc (fun u t H1 locs1 ht hvm hw hB hz1 hk1 hS1 => ?_)
  obtain ⟨hP1, hK1, hD1⟩ := hB
  rw [ht] at hP1
  obtain ⟨hP2, hD2⟩ := va_join (wr := wr) (w1 := u) hP hD isC isR hC hR hn hdis hk1 hFc hP1 hD1
  exact kk u H1 locs1 hw hP2 hD2 hS1
theorem sm_ri {post : Int32 → va_W → Prop} {v : Int32} (hexec : p.tables.exec = Jvm.exec) (hb : c.code = cc) (hr : meth.sig.returnType = some .int) (hlocks : meth.locks = false) (hK : va_K D cl tys s) (hP : va_P D cl ws H) (hD : va_D A ws) (hS : va_S A s.heap H locs) (hpost : post v ws) (hdg : decode cc pc = .ok (.ireturn, 1)) :
    W p l e R s m args below meth c H locs 0 0 (MQ below (va_Qi post (sm_B D cl tys A) A) args s 0 0 A) (F0 m pc ls [.int v]) :=
  W.iret hexec hb hr (fun t ht hW => ⟨⟨v, ws, rfl, hpost, by rw [ht]; exact hP, va_K.moved hW.alike hK, hD⟩, hS.F ht⟩) hS.2.2 hdg (hlocks := hlocks)
theorem sm_rz {post : Int32 → va_W → Prop} {v : Int32} (hexec : p.tables.exec = Jvm.exec) (hb : c.code = cc) (hr : meth.sig.returnType = some .boolean) (hlocks : meth.locks = false) (hK : va_K D cl tys s) (hP : va_P D cl ws H) (hD : va_D A ws) (hS : va_S A s.heap H locs) (h01 : v = 0 ∨ v = 1) (hpost : post v ws) (hdg : decode cc pc = .ok (.ireturn, 1)) :
    W p l e R s m args below meth c H locs 0 0 (MQ below (va_Qi post (sm_B D cl tys A) A) args s 0 0 A) (F0 m pc ls [.int v]) :=
  W.zret (ty := .boolean) hexec hb hr (by rcases h01 with h | h <;> subst h <;> rfl) (fun t ht hW => ⟨⟨v, ws, rfl, hpost, by rw [ht]; exact hP, va_K.moved hW.alike hK, hD⟩, hS.F ht⟩) hS.2.2 hdg (hlocks := hlocks)
theorem sm_rv {post : va_W → Prop} (hexec : p.tables.exec = Jvm.exec) (hb : c.code = cc) (hr : meth.sig.returnType = none) (hlocks : meth.locks = false) (hK : va_K D cl tys s) (hP : va_P D cl ws H) (hD : va_D A ws) (hS : va_S A s.heap H locs) (hpost : post ws) (hdg : decode cc pc = .ok (.return_, 1)) :
    W p l e R s m args below meth c H locs 0 0 (MQ below (va_Qv post (sm_B D cl tys A) A) args s 0 0 A) (F0 m pc ls []) :=
  W.vret hexec hb hr (fun t ht hW => ⟨⟨ws, rfl, hpost, by rw [ht]; exact hP, va_K.moved hW.alike hK, hD⟩, hS.F ht⟩) hS.2.2 hdg (hlocks := hlocks)
theorem sm_iald (hexec : p.tables.exec = Jvm.exec) (hb : c.code = cc) (hK : va_K D cl tys s) (hP : va_P D cl ws H) (q0 t0 : Nat) {cA : ClassId} {n : Nat} {f : Nat → Int32} (ha : ws[q0]? = some (a, .inl (cA, n, .inl f))) (ht : tys[t0]? = some (cA, .int)) {i : Int32} {j : Nat} (hin : vp_in i n) (hj : i.toNatClampNeg = j) (hdg : decode cc pc = .ok (.iaload, 1))
    (kk : W p l e R s m args below meth c H locs cells slots Q (F0 m (pc + 1) ls (.int (f j) :: rest))) : W p l e R s m args below meth c H locs cells slots Q (F0 m pc ls (.int i :: .ref a :: rest)) :=
  va_iald hexec hb hK hP q0 t0 ha ht hin hdg (by rw [hj]; exact kk)
theorem sm_zald (hexec : p.tables.exec = Jvm.exec) (hb : c.code = cc) (hK : va_K D cl tys s) (hP : va_P D cl ws H) (q0 t0 : Nat) {cA : ClassId} {n : Nat} {f : Nat → Int32} (ha : ws[q0]? = some (a, .inl (cA, n, .inl f))) (ht : tys[t0]? = some (cA, .boolean)) {i : Int32} {j : Nat} (hin : vp_in i n) (hj : i.toNatClampNeg = j) (hdg : decode cc pc = .ok (.baload, 1))
    (kk : W p l e R s m args below meth c H locs cells slots Q (F0 m (pc + 1) ls (.int (f j) :: rest))) : W p l e R s m args below meth c H locs cells slots Q (F0 m pc ls (.int i :: .ref a :: rest)) :=
  va_zald hexec hb hK hP q0 t0 ha ht hin hdg (by rw [hj]; exact kk)
theorem sm_iast (hexec : p.tables.exec = Jvm.exec) (hb : c.code = cc) (hK : va_K D cl tys s) (hP : va_P D cl ws H) (hD : va_D A ws) (hS : va_S A H0 H locs) (q0 t0 : Nat) {cA : ClassId} {n : Nat} {f : Nat → Int32} (ha : ws[q0]? = some (a, .inl (cA, n, .inl f))) (ht : tys[t0]? = some (cA, .int)) {i x : Int32} {j : Nat} (hin : vp_in i n) (hj : i.toNatClampNeg = j) (hdg : decode cc pc = .ok (.iastore, 1))
    (kk : ∀ (H1 : Heap) (locs1 : List Loc), va_P D cl (ws.set q0 (a, .inl (cA, n, .inl (upd f j x)))) H1 → va_D A (ws.set q0 (a, .inl (cA, n, .inl (upd f j x)))) → va_S A H0 H1 locs1 → W p l e R s m args below meth c H1 locs1 cells slots Q (F0 m (pc + 1) ls rest)) : W p l e R s m args below meth c H locs cells slots Q (F0 m pc ls (.int x :: .int i :: .ref a :: rest)) :=
  va_iast hexec hb hK hP hD hS q0 t0 ha ht hin hdg (by rw [hj]; exact kk)
theorem sm_nz {x : Int32} (h : x = 0 ∨ x = 1) : vp_nar .boolean x = x := by
  rcases h with h | h <;> subst h <;> decide
theorem sm_zast (hexec : p.tables.exec = Jvm.exec) (hb : c.code = cc) (hK : va_K D cl tys s) (hP : va_P D cl ws H) (hD : va_D A ws) (hS : va_S A H0 H locs) (q0 t0 : Nat) {cA : ClassId} {n : Nat} {f : Nat → Int32} (ha : ws[q0]? = some (a, .inl (cA, n, .inl f))) (ht : tys[t0]? = some (cA, .boolean)) {i x : Int32} {j : Nat} (hin : vp_in i n) (hj : i.toNatClampNeg = j) (h01 : x = 0 ∨ x = 1) (hdg : decode cc pc = .ok (.bastore, 1))
    (kk : ∀ (H1 : Heap) (locs1 : List Loc), va_P D cl (ws.set q0 (a, .inl (cA, n, .inl (upd f j x)))) H1 → va_D A (ws.set q0 (a, .inl (cA, n, .inl (upd f j x)))) → va_S A H0 H1 locs1 → W p l e R s m args below meth c H1 locs1 cells slots Q (F0 m (pc + 1) ls rest)) : W p l e R s m args below meth c H locs cells slots Q (F0 m pc ls (.int x :: .int i :: .ref a :: rest)) :=
  va_zast hexec hb hK hP hD hS q0 t0 ha ht hin hdg (by rw [hj, sm_nz h01]; exact kk)
/-- where a tableswitch goes -/
def sm_tabT (pc : Nat) (dflt lo hi : Int) (offs : Array Int) (x : Int32) : Option Int := if x.toInt < lo ∨ hi < x.toInt then some ((pc : Int) + dflt) else (offs[(x.toInt - lo).toNat]?).map (fun o => (pc : Int) + o)
theorem sm_tab (hexec : p.tables.exec = Jvm.exec) (hb : c.code = cc) {dflt lo hi : Int} {offs : Array Int} {len : Nat} {x : Int32} {tgt : Nat} (hdg : decode cc pc = .ok (.tableswitch dflt lo hi offs, len)) (h : sm_tabT pc dflt lo hi offs x = some (tgt : Int))
    (k : W p l e R s m args below meth c H locs cells slots Q (F0 m tgt ls rest)) : W p l e R s m args below meth c H locs cells slots Q (F0 m pc ls (.int x :: rest)) := by
  unfold sm_tabT at h
  by_cases g : x.toInt < lo ∨ hi < x.toInt
  · rw [if_pos g] at h
    exact lv_tableOut hexec hb hdg g (Option.some.inj h) k
  · rw [if_neg g] at h
    cases ho : offs[(x.toInt - lo).toNat]? with
    | none => rw [ho] at h; cases h
    | some o =>
      rw [ho] at h
      exact lv_tableIn hexec hb hdg (fun z => g (Or.inl z)) (fun z => g (Or.inr z)) ho (Option.some.inj h) k
end SMB
def sm_nk (x : Int32) : List Int32 → Prop
  | [] => True
  | k :: ks => x ≠ k ∧ sm_nk x ks
theorem sm_nk_mem {x : Int32} : ∀ {ks : List Int32}, sm_nk x ks → ∀ k ∈ ks, x ≠ k
  | [], _, _, h => by cases h
  | k :: ks, h, k', h' => by
    rcases List.mem_cons.mp h' with e | e
    · rw [e]; exact h.1
    · exact sm_nk_mem h.2 k' e
theorem sm_tabD {pc : Nat} {dflt lo hi : Int} {offs : Array Int} {x : Int32} {tgt : Nat} (keys : List Int32) (hx : sm_nk x keys) (hall : ∀ i ∈ List.range (hi - lo + 1).toNat, (lo + (i : Int)) ∈ keys.map (fun k => k.toInt) ∨ offs[i]? = some dflt) (ht : (pc : Int) + dflt = (tgt : Int)) : sm_tabT pc dflt lo hi offs x = some (tgt : Int) := by
  unfold sm_tabT
  by_cases g : x.toInt < lo ∨ hi < x.toInt
  · rw [if_pos g, ht]
  · rw [if_neg g]
    have g1 : ¬ x.toInt < lo := fun z => g (Or.inl z)
    have g2 : ¬ hi < x.toInt := fun z => g (Or.inr z)
    rcases hall (x.toInt - lo).toNat (List.mem_range.mpr (by omega)) with q | q
    · obtain ⟨k, hk, e⟩ := List.mem_map.mp q
      have e2 : k.toInt = x.toInt := by
        have : ((x.toInt - lo).toNat : Int) = x.toInt - lo := Int.toNat_of_nonneg (by omega)
        rw [e, this]; omega
      exact absurd (Int32.toInt_inj.mp e2).symm (sm_nk_mem hx k hk)
    · rw [q]; simp only [Option.map_some, ht]
/-- a Bool as the machine has it -/
def b2i (b : Bool) : Int32 := if b then 1 else 0
theorem b2i_01 (b : Bool) : b2i b = 0 ∨ b2i b = 1 := by cases b <;> decide
theorem b2i_t : b2i true = 1 := rfl
theorem b2i_f : b2i false = 0 := rfl
theorem b2i_eq0 {b : Bool} (h : b2i b = 0) : b = false := by cases b <;> first | rfl | exact absurd h (by decide)
theorem b2i_ne0 {b : Bool} (h : ¬ b2i b = 0) : b = true := by cases b <;> first | rfl | exact absurd rfl h
/-- in range, as a Bool -/
def inB (x : Int32) (n : Nat) : Bool := decide (0 ≤ x.toInt ∧ x.toInt < (n : Int))
theorem sm_inB {x : Int32} {n : Nat} (h : inB x n = true) : vp_in x n := vp_in_iff.mpr (of_decide_eq_true h)
theorem inB_of {x : Int32} {n : Nat} (h : vp_in x n) : inB x n = true := decide_eq_true (vp_in_iff.mp h)
theorem inB_mono {x : Int32} {n k : Nat} (h : inB x n = true) (hk : n ≤ k) : inB x k = true := by
  have := of_decide_eq_true h
  exact decide_eq_true (by omega)
theorem inB_nI {i n : Nat} (hi : i < 2 ^ 31) : inB (nI i) n = decide (i < n) := by
  unfold inB; rw [nI_toInt hi]; congr 1; simp only [eq_iff_iff]; omega
theorem inB_j {x : Int32} {n : Nat} (h : inB x n = true) (hn : n ≤ 1000) : ∃ j, j < n ∧ x = nI j := vp_in_of (sm_inB h) (by omega)
theorem in_ge {v M : Int32} {n : Nat} (hM : M.toInt = (n : Int)) (h0 : ¬ v < 0) (h1 : ¬ M ≤ v) : inB v n = true := by
  rw [Int32.lt_iff_toInt_lt, Int32.toInt_zero] at h0
  rw [Int32.le_iff_toInt_le] at h1
  exact decide_eq_true (by omega)
theorem in_lo {v : Int32} {n : Nat} (h : v < 0) : inB v n = false := by
  rw [Int32.lt_iff_toInt_lt, Int32.toInt_zero] at h
  exact decide_eq_false (by omega)
theorem in_hi {v M : Int32} {n : Nat} (hM : M.toInt = (n : Int)) (h : M ≤ v) : inB v n = false := by
  rw [Int32.le_iff_toInt_le] at h
  exact decide_eq_false (by omega)
theorem in_gt {v M : Int32} {n : Nat} (hM : M.toInt + 1 = (n : Int)) (h0 : ¬ v < 0) (h1 : ¬ M < v) : inB v n = true := by
  rw [Int32.lt_iff_toInt_lt, Int32.toInt_zero] at h0
  rw [Int32.lt_iff_toInt_lt] at h1
  exact decide_eq_true (by omega)
theorem in_hg {v M : Int32} {n : Nat} (hM : M.toInt + 1 = (n : Int)) (h : M < v) : inB v n = false := by
  rw [Int32.lt_iff_toInt_lt] at h
  exact decide_eq_false (by omega)
theorem sm_dec (x : Int32) : x + Int32.ofInt (-1) = x - 1 := by
  rw [Int32.sub_eq_add_neg]; rfl
theorem sm_pred {j : Nat} (h : ¬ nI j - 1 < 0) : ∃ i, j = i + 1 := by
  cases j with
  | zero => exact absurd (by decide) h
  | succ i => exact ⟨i, rfl⟩
theorem sm_pred0 {j : Nat} (hj : j < 2 ^ 31) (h : nI j - 1 < 0) : j = 0 := by
  cases j with
  | zero => rfl
  | succ i => rw [nI_pred] at h; exact absurd h (nI_pos (by omega))
end
section
/-! Pure words for the class: the row of ops, liveness. -/
def kA (n : Nat) (fk : Nat → Int32) (k : Int32) : Int32 := if inB k n = true then fk k.toNatClampNeg else 11
def nA (n : Nat) (fb : Nat → Int32) (k : Int32) : Int32 := if inB k n = true then fb k.toNatClampNeg else 0
def sA (n : Nat) (fk fa : Nat → Int32) (k : Int32) : Int32 := if kA n fk k = 0 ∨ kA n fk k = 1 ∨ kA n fk k = 2 ∨ kA n fk k = 3 ∨ kA n fk k = 4 ∨ kA n fk k = 5 ∨ kA n fk k = 6 ∨ kA n fk k = 9 then fa k.toNatClampNeg else -1
def lA (n : Nat) (fk fa fb : Nat → Int32) (k : Int32) : Int32 := if kA n fk k = 1 ∨ kA n fk k = 2 ∨ kA n fk k = 3 ∨ kA n fk k = 4 ∨ kA n fk k = 5 ∨ kA n fk k = 6 then fb k.toNatClampNeg else if kA n fk k = 8 ∨ kA n fk k = 10 then fa k.toNatClampNeg else -1
def rA (n : Nat) (fk fc : Nat → Int32) (k : Int32) : Int32 := if kA n fk k = 1 ∨ kA n fk k = 2 ∨ kA n fk k = 3 ∨ kA n fk k = 4 ∨ kA n fk k = 5 then fc k.toNatClampNeg else -1
def tA (n : Nat) (fk fa fb : Nat → Int32) (k : Int32) : Int32 := if kA n fk k = 7 then fa k.toNatClampNeg else if kA n fk k = 8 then fb k.toNatClampNeg else -1
/-- a kind other than 11 is that of an op that there is -/
theorem kA_in {n : Nat} {fk : Nat → Int32} {k : Int32} (h : kA n fk k ≠ 11) : inB k n = true := by
  unfold kA at h
  by_cases g : inB k n = true
  · exact g
  · rw [if_neg g] at h; exact absurd rfl h
theorem kA_vp {n : Nat} {fk : Nat → Int32} {k : Int32} (hn : n ≤ 60) (h : kA n fk k ≠ 11) : vp_in k 60 := sm_inB (inB_mono (kA_in h) hn)
def okOp (k a b c : Int32) : Bool :=
  if k = 0 ∨ k = 9 ∨ k = 10 then inB a 24
  else if k = 1 ∨ k = 2 ∨ k = 3 ∨ k = 4 ∨ k = 5 then inB a 24 && inB b 24 && inB c 24
  else if k = 6 then inB a 24 && inB b 24
  else if k = 7 then inB a 61
  else if k = 8 then inB a 24 && inB b 61
  else decide (k = 11)
/-- liveness: a row of masks -/
def sH (ff : Nat → Int32) (k : Int32) : Int32 := if inB k 61 = true then ff k.toNatClampNeg else 0
def bitV (v : Int32) : Int32 := if inB v 24 = true then 1 <<< (v &&& 31) else 0
def hasB (ff : Nat → Int32) (k v : Int32) : Bool := decide (¬ sH ff k &&& bitV v = 0)
def sBh (n : Nat) (fk fa fb ff : Nat → Int32) (k : Int32) : Int32 :=
  if kA n fk k = 7 then sH ff (tA n fk fa fb k)
  else if kA n fk k = 8 then sH ff (tA n fk fa fb k) ||| sH ff (k + 1)
  else if kA n fk k = 11 then 0
  else sH ff (k + 1)
def fnd (n : Nat) (fk fa fb fc ff : Nat → Int32) (k : Int32) : Int32 := (bitV (lA n fk fa fb k) ||| bitV (rA n fk fc k)) ||| (sBh n fk fa fb ff k &&& (bitV (sA n fk fa k) ^^^ (-1)))
/-- one sweep from op j - 1 down, with what has changed so far -/
def swp (n : Nat) (fk fa fb fc : Nat → Int32) : Nat → (Nat → Int32) → Int32 → (Nat → Int32) × Int32
  | 0, ff, ch => (ff, ch)
  | j + 1, ff, ch => if fnd n fk fa fb fc ff (nI j) = ff j then swp n fk fa fb fc j ff ch else swp n fk fa fb fc j (upd ff j (fnd n fk fa fb fc ff (nI j))) 1
/-- the sweeps: so many passes are left -/
def flw (n : Nat) (fk fa fb fc : Nat → Int32) : Nat → (Nat → Int32) → Int32 → (Nat → Int32)
  | 0, ff, _ => ff
  | q + 1, ff, ch => if ch = 0 then ff else flw n fk fa fb fc q (swp n fk fa fb fc n ff 0).1 (swp n fk fa fb fc n ff 0).2
end
section
/-! Liveness as such, for one value: ops k < n with kinds kd, targets tg; rd, st: does op k read, set the value. -/
def li_nx (kd : Nat → Int32) (tg : Nat → Nat) (g : Nat → Bool) (k : Nat) : Bool := if kd k = 7 then g (tg k) else if kd k = 8 then g (tg k) || g (k + 1) else if kd k = 11 then false else g (k + 1)
def li_stp (n : Nat) (kd : Nat → Int32) (tg : Nat → Nat) (rd st : Nat → Bool) (g : Nat → Bool) (k : Nat) : Bool := decide (k < n) && (rd k || (li_nx kd tg g k && !st k))
def li_L (n : Nat) (kd : Nat → Int32) (tg : Nat → Nat) (rd st : Nat → Bool) : Nat → Nat → Bool
  | 0, _ => false
  | i + 1, k => li_stp n kd tg rd st (li_L n kd tg rd st i) k
/-- live: by a way of any length -/
def li_Live (n : Nat) (kd : Nat → Int32) (tg : Nat → Nat) (rd st : Nat → Bool) (k : Nat) : Prop := ∃ i, li_L n kd tg rd st i k = true
section LVP
variable {n : Nat} {kd : Nat → Int32} {tg : Nat → Nat} {rd st : Nat → Bool}
theorem li_nx_mono {g g' : Nat → Bool} (h : ∀ k, g k = true → g' k = true) (k : Nat) : li_nx kd tg g k = true → li_nx kd tg g' k = true := by
  unfold li_nx
  by_cases h7 : kd k = 7
  · rw [if_pos h7, if_pos h7]; exact h _
  · rw [if_neg h7, if_neg h7]
    by_cases h8 : kd k = 8
    · rw [if_pos h8, if_pos h8]
      intro z
      rcases Bool.or_eq_true_iff.mp z with q | q
      · exact Bool.or_eq_true_iff.mpr (Or.inl (h _ q))
      · exact Bool.or_eq_true_iff.mpr (Or.inr (h _ q))
    · rw [if_neg h8, if_neg h8]
      by_cases h11 : kd k = 11
      · rw [if_pos h11, if_pos h11]; exact id
      · rw [if_neg h11, if_neg h11]; exact h _
theorem li_stp_iff {g : Nat → Bool} {k : Nat} : li_stp n kd tg rd st g k = true ↔ k < n ∧ (rd k = true ∨ (li_nx kd tg g k = true ∧ st k = false)) := by
  unfold li_stp
  simp only [Bool.and_eq_true, decide_eq_true_eq, Bool.or_eq_true, Bool.not_eq_true']
theorem li_stp_mono {g g' : Nat → Bool} (h : ∀ k, g k = true → g' k = true) (k : Nat) (z : li_stp n kd tg rd st g k = true) : li_stp n kd tg rd st g' k = true := by
  obtain ⟨a, b⟩ := li_stp_iff.mp z
  refine li_stp_iff.mpr ⟨a, ?_⟩
  rcases b with b | b
  · exact Or.inl b
  · exact Or.inr ⟨li_nx_mono h k b.1, b.2⟩
theorem li_L_mono (i : Nat) : ∀ k, li_L n kd tg rd st i k = true → li_L n kd tg rd st (i + 1) k = true := by
  induction i with
  | zero => intro k z; exact absurd z (by simp [li_L])
  | succ i ih => intro k z; exact li_stp_mono ih k z
theorem li_L_le {i j : Nat} (h : i ≤ j) : ∀ k, li_L n kd tg rd st i k = true → li_L n kd tg rd st j k = true := by
  induction h with
  | refl => intro k z; exact z
  | step _ ih => intro k z; exact li_L_mono _ k (ih k z)
/-- what is closed under a step holds all of it -/
theorem li_fix {g : Nat → Bool} (h : ∀ k, li_stp n kd tg rd st g k = true → g k = true) (i : Nat) : ∀ k, li_L n kd tg rd st i k = true → g k = true := by
  induction i with
  | zero => intro k z; exact absurd z (by simp [li_L])
  | succ i ih => intro k z; exact h k (li_stp_mono ih k z)
theorem li_fixL {g : Nat → Bool} (h : ∀ k, li_stp n kd tg rd st g k = true → g k = true) {k : Nat} (z : li_Live n kd tg rd st k) : g k = true := z.elim fun i hi => li_fix h i k hi
theorem li_Live_lt {k : Nat} (z : li_Live n kd tg rd st k) : k < n := by
  obtain ⟨i, hi⟩ := z
  cases i with
  | zero => exact absurd hi (by simp [li_L])
  | succ i => exact (li_stp_iff.mp hi).1
theorem li_Live_step {g : Nat → Bool} (h : ∀ k, g k = true → li_Live n kd tg rd st k) {k : Nat} (z : li_stp n kd tg rd st g k = true) : li_Live n kd tg rd st k := by
  obtain ⟨a, b⟩ := li_stp_iff.mp z
  rcases b with b | ⟨b, b2⟩
  · exact ⟨1, li_stp_iff.mpr ⟨a, Or.inl b⟩⟩
  · have key : ∃ i, li_nx kd tg (li_L n kd tg rd st i) k = true := by
      unfold li_nx at b ⊢
      by_cases h7 : kd k = 7
      · rw [if_pos h7] at b
        obtain ⟨i, hi⟩ := h _ b
        exact ⟨i, by rw [if_pos h7]; exact hi⟩
      · rw [if_neg h7] at b
        by_cases h8 : kd k = 8
        · rw [if_pos h8] at b
          rcases Bool.or_eq_true_iff.mp b with q | q
          · obtain ⟨i, hi⟩ := h _ q
            exact ⟨i, by rw [if_neg h7, if_pos h8]; exact Bool.or_eq_true_iff.mpr (Or.inl hi)⟩
          · obtain ⟨i, hi⟩ := h _ q
            exact ⟨i, by rw [if_neg h7, if_pos h8]; exact Bool.or_eq_true_iff.mpr (Or.inr hi)⟩
        · rw [if_neg h8] at b
          by_cases h11 : kd k = 11
          · rw [if_pos h11] at b; exact absurd b (by decide)
          · rw [if_neg h11] at b
            obtain ⟨i, hi⟩ := h _ b
            exact ⟨i, by rw [if_neg h7, if_neg h8, if_neg h11]; exact hi⟩
    obtain ⟨i, hi⟩ := key
    exact ⟨i + 1, li_stp_iff.mpr ⟨a, Or.inr ⟨hi, b2⟩⟩⟩
end LVP
/-- how many below n -/
def cnB (g : Nat → Bool) : Nat → Nat
  | 0 => 0
  | n + 1 => cnB g n + (if g n = true then 1 else 0)
theorem cnB_le (g : Nat → Bool) (n : Nat) : cnB g n ≤ n := by
  induction n with
  | zero => exact Nat.le_refl 0
  | succ n ih =>
    show cnB g n + _ ≤ n + 1
    by_cases h : g n = true
    · rw [if_pos h]; omega
    · rw [if_neg h]; omega
theorem cnB_mono {g g' : Nat → Bool} (h : ∀ k, g k = true → g' k = true) (n : Nat) : cnB g n ≤ cnB g' n := by
  induction n with
  | zero => exact Nat.le_refl 0
  | succ n ih =>
    show cnB g n + _ ≤ cnB g' n + _
    by_cases h1 : g n = true
    · rw [if_pos h1, if_pos (h n h1)]; omega
    · rw [if_neg h1]; omega
theorem cnB_lt {g g' : Nat → Bool} (h : ∀ k, g k = true → g' k = true) {k : Nat} (h1 : g' k = true) (h2 : ¬ g k = true) : ∀ n, k < n → cnB g n < cnB g' n := by
  intro n
  induction n with
  | zero => intro z; exact absurd z (Nat.not_lt_zero _)
  | succ n ih =>
    intro z
    show cnB g n + _ < cnB g' n + _
    by_cases e : k = n
    · subst e
      rw [if_pos h1, if_neg h2]
      have := cnB_mono h k
      omega
    · have := ih (by omega)
      by_cases h3 : g n = true
      · rw [if_pos h3, if_pos (h n h3)]; omega
      · rw [if_neg h3]; omega
section LVQ
variable {n : Nat} {kd : Nat → Int32} {tg : Nat → Nat} {rd st : Nat → Bool}
theorem li_stab (i : Nat) : (∃ j, j ≤ i ∧ ∀ k, li_L n kd tg rd st (j + 1) k = true → li_L n kd tg rd st j k = true) ∨ i ≤ cnB (li_L n kd tg rd st i) n := by
  induction i with
  | zero => exact Or.inr (Nat.zero_le _)
  | succ i ih =>
    rcases ih with ⟨j, hj, h⟩ | h
    · exact Or.inl ⟨j, by omega, h⟩
    · by_cases q : ∀ k, li_L n kd tg rd st (i + 1) k = true → li_L n kd tg rd st i k = true
      · exact Or.inl ⟨i, by omega, q⟩
      · obtain ⟨k, hk⟩ := Classical.not_forall.mp q
        have hk1 : li_L n kd tg rd st (i + 1) k = true := Classical.byContradiction fun z => hk fun y => absurd y z
        have hk2 : ¬ li_L n kd tg rd st i k = true := fun z => hk fun _ => z
        have := cnB_lt (li_L_mono i) hk1 hk2 n (li_stp_iff.mp hk1).1
        exact Or.inr (by omega)
/-- after more steps than there are ops nothing new comes -/
theorem li_L_all {N : Nat} (hN : n < N) {k : Nat} (z : li_Live n kd tg rd st k) : li_L n kd tg rd st N k = true := by
  rcases li_stab (n := n) (kd := kd) (tg := tg) (rd := rd) (st := st) N with ⟨j, hj, h⟩ | h
  · exact li_L_le hj k (li_fixL (g := li_L n kd tg rd st j) h z)
  · exact absurd (Nat.le_trans h (cnB_le _ n)) (by omega)
end LVQ
end
section
/-! The class's masks hold liveness. (bt and its rows: begun as kit/laws/BITS.to-paste.) -/
def bt (x : Int32) (i : Nat) : Bool := x.toBitVec.getLsbD i
theorem b_or (x y : Int32) (i : Nat) : bt (x ||| y) i = (bt x i || bt y i) := by unfold bt; rw [Int32.toBitVec_or, BitVec.getLsbD_or]
theorem b_and (x y : Int32) (i : Nat) : bt (x &&& y) i = (bt x i && bt y i) := by unfold bt; rw [Int32.toBitVec_and, BitVec.getLsbD_and]
theorem b_xor (x y : Int32) (i : Nat) : bt (x ^^^ y) i = (bt x i ^^ bt y i) := by unfold bt; rw [Int32.toBitVec_xor, BitVec.getLsbD_xor]
theorem b_m1 : ∀ i, i < 32 → bt (-1) i = true := by decide +kernel
theorem b_0 (i : Nat) : bt 0 i = false := BitVec.getLsbD_zero
theorem b_one : ∀ w, w < 24 → ∀ v, v < 24 → bt ((1 : Int32) <<< (nI w &&& 31)) v = decide (w = v) := by decide +kernel
theorem b_and1 : ∀ v, v < 24 → ∀ i, i < 32 → bt ((1 : Int32) <<< (nI v &&& 31)) i = decide (v = i) := by decide +kernel
theorem b_ext {x y : Int32} (h : ∀ i, i < 32 → bt x i = bt y i) : x = y := Int32.toBitVec_inj.mp (BitVec.eq_of_getLsbD_eq (fun i hi => h i hi))
theorem nI_inj {a b : Nat} (ha : a < 2 ^ 31) (hb : b < 2 ^ 31) (h : nI a = nI b) : a = b := (nI_eq ha hb).mp h
theorem bt_bit {x : Int32} {v : Nat} (hv : v < 24) : bt (bitV x) v = decide (x = nI v) := by
  unfold bitV
  by_cases h : inB x 24 = true
  · rw [if_pos h]
    obtain ⟨w, hw, rfl⟩ := inB_j h (by decide)
    rw [b_one w hw v hv]
    congr 1
    simp only [eq_iff_iff]
    exact ⟨fun z => by rw [z], fun z => nI_inj (by omega) (by omega) z⟩
  · rw [if_neg h, b_0]
    refine (decide_eq_false fun z => h ?_).symm
    rw [z, inB_nI (by omega)]
    exact decide_eq_true hv
theorem bt_andz {x : Int32} {v : Nat} (hv : v < 24) : (¬ x &&& bitV (nI v) = 0) ↔ bt x v = true := by
  have hb : bitV (nI v) = 1 <<< (nI v &&& 31) := if_pos (by rw [inB_nI (by omega)]; exact decide_eq_true hv)
  constructor
  · intro h
    cases hx : bt x v with
    | true => rfl
    | false =>
      refine absurd (b_ext fun i hi => ?_) h
      rw [b_and, hb, b_and1 v hv i hi, b_0]
      by_cases e : v = i
      · subst e; rw [hx]; rfl
      · rw [decide_eq_false e, Bool.and_false]
  · intro h z
    have q := b_and x (bitV (nI v)) v
    rw [z, b_0, h, hb, b_one v hv v hv, decide_eq_true rfl] at q
    exact absurd q (by decide)
/-- every op that there is is one that op(..) took -/
def okRow (n : Nat) (fk fa fb fc : Nat → Int32) : Prop := ∀ k, k < n → okOp (fk k) (fa k) (fb k) (fc k) = true
theorem kA_nI {n k : Nat} {fk : Nat → Int32} (hk : k < n) (hn : n ≤ 60) : kA n fk (nI k) = fk k := by
  unfold kA
  rw [if_pos (by rw [inB_nI (by omega)]; exact decide_eq_true hk), nI_clamp (by omega)]
def tgN (fk fa fb : Nat → Int32) (k : Nat) : Nat := if fk k = 7 then (fa k).toNatClampNeg else (fb k).toNatClampNeg
def rdB (n : Nat) (fk fa fb fc : Nat → Int32) (v k : Nat) : Bool := decide (lA n fk fa fb (nI k) = nI v) || decide (rA n fk fc (nI k) = nI v)
def stB (n : Nat) (fk fa : Nat → Int32) (v k : Nat) : Bool := decide (sA n fk fa (nI k) = nI v)
/-- live in the row -/
def LiveR (n : Nat) (fk fa fb fc : Nat → Int32) (v k : Nat) : Prop := li_Live n fk (tgN fk fa fb) (rdB n fk fa fb fc v) (stB n fk fa v) k
theorem sH_nI {ff : Nat → Int32} {k : Nat} (hk : k < 61) : sH ff (nI k) = ff k := by
  unfold sH
  rw [if_pos (by rw [inB_nI (by omega)]; exact decide_eq_true hk), nI_clamp (by omega)]
theorem sH_in {ff : Nat → Int32} {x : Int32} (h : inB x 61 = true) : sH ff x = ff x.toNatClampNeg := if_pos h
theorem ok7 {a b c : Int32} {k : Int32} (h : okOp k a b c = true) (h7 : k = 7) : inB a 61 = true := by
  subst h7; simpa [okOp] using h
theorem ok8 {a b c : Int32} {k : Int32} (h : okOp k a b c = true) (h8 : k = 8) : inB a 24 = true ∧ inB b 61 = true := by
  subst h8; simpa [okOp] using h
section MSK
variable {n : Nat} {fk fa fb fc : Nat → Int32} {v : Nat}
theorem fnd_bt (hn : n ≤ 60) (hok : okRow n fk fa fb fc) (hv : v < 24) {ff : Nat → Int32} {k : Nat} (hk : k < n) :
    bt (fnd n fk fa fb fc ff (nI k)) v = li_stp n fk (tgN fk fa fb) (rdB n fk fa fb fc v) (stB n fk fa v) (fun j => bt (ff j) v) k := by
  have hkA : kA n fk (nI k) = fk k := kA_nI hk hn
  have e1 : nI k + 1 = nI (k + 1) := nI_1 k
  have hs : bt (sBh n fk fa fb ff (nI k)) v = li_nx fk (tgN fk fa fb) (fun j => bt (ff j) v) k := by
    unfold sBh li_nx tA tgN
    rw [hkA, e1, sH_nI (show k + 1 < 61 by omega), nI_clamp (show k < 2 ^ 31 by omega)]
    by_cases h7 : fk k = 7
    · simp only [h7, if_true]
      rw [sH_in (ok7 (hok k hk) h7)]
    · simp only [if_neg h7]
      by_cases h8 : fk k = 8
      · simp only [h8, if_true]
        rw [sH_in (ok8 (hok k hk) h8).2, b_or]
      · simp only [if_neg h8]
        by_cases h11 : fk k = 11
        · simp only [h11, if_true]; exact b_0 v
        · simp only [if_neg h11]
  unfold fnd li_stp rdB stB
  rw [b_or, b_or, b_and, b_xor, bt_bit hv, bt_bit hv, bt_bit hv, b_m1 v (by omega), hs, decide_eq_true hk]
  simp only [Bool.true_and, Bool.bne_true, Bool.xor_true]
theorem swp_ok (hn : n ≤ 60) (hok : okRow n fk fa fb fc) (hv : v < 24) : ∀ (j : Nat) (ff : Nat → Int32) (ch : Int32), j ≤ n →
    (∀ k, bt (ff k) v = true → li_stp n fk (tgN fk fa fb) (rdB n fk fa fb fc v) (stB n fk fa v) (fun i => bt (ff i) v) k = true) →
    (∀ k, bt (ff k) v = true → LiveR n fk fa fb fc v k) →
    (∀ k, bt (ff k) v = true → bt ((swp n fk fa fb fc j ff ch).1 k) v = true) ∧
    (∀ k, bt ((swp n fk fa fb fc j ff ch).1 k) v = true → li_stp n fk (tgN fk fa fb) (rdB n fk fa fb fc v) (stB n fk fa v) (fun i => bt ((swp n fk fa fb fc j ff ch).1 i) v) k = true) ∧
    (∀ k, bt ((swp n fk fa fb fc j ff ch).1 k) v = true → LiveR n fk fa fb fc v k) ∧
    (∀ k, k < j → li_stp n fk (tgN fk fa fb) (rdB n fk fa fb fc v) (stB n fk fa v) (fun i => bt (ff i) v) k = true → bt ((swp n fk fa fb fc j ff ch).1 k) v = true) := by
  intro j
  induction j with
  | zero => intro ff ch _ hp hs; exact ⟨fun k z => z, hp, hs, fun k z => absurd z (Nat.not_lt_zero _)⟩
  | succ j ih =>
    intro ff ch hj hp hs
    have hfb := fnd_bt hn hok hv (ff := ff) (k := j) (by omega)
    -- the row behind this op's turn
    have key : ∃ (f1 : Nat → Int32) (c1 : Int32), swp n fk fa fb fc (j + 1) ff ch = swp n fk fa fb fc j f1 c1 ∧ f1 j = fnd n fk fa fb fc ff (nI j) ∧ ∀ k, k ≠ j → f1 k = ff k := by
      by_cases q : fnd n fk fa fb fc ff (nI j) = ff j
      · exact ⟨ff, ch, by rw [swp, if_pos q], q.symm, fun _ _ => rfl⟩
      · exact ⟨upd ff j (fnd n fk fa fb fc ff (nI j)), 1, by rw [swp, if_neg q], pk_us, fun k hk => pk_un hk⟩
    obtain ⟨f1, c1, e, ej, eo⟩ := key
    rw [e]
    have up : ∀ k, bt (ff k) v = true → bt (f1 k) v = true := by
      intro k z
      by_cases q : k = j
      · subst q; rw [ej, hfb]; exact hp k z
      · rw [eo k q]; exact z
    have hp1 : ∀ k, bt (f1 k) v = true → li_stp n fk (tgN fk fa fb) (rdB n fk fa fb fc v) (stB n fk fa v) (fun i => bt (f1 i) v) k = true := by
      intro k z
      refine li_stp_mono up k ?_
      by_cases q : k = j
      · subst q; rw [ej, hfb] at z; exact z
      · rw [eo k q] at z; exact hp k z
    have hs1 : ∀ k, bt (f1 k) v = true → LiveR n fk fa fb fc v k := by
      intro k z
      by_cases q : k = j
      · subst q; rw [ej, hfb] at z; exact li_Live_step hs z
      · rw [eo k q] at z; exact hs k z
    obtain ⟨a1, a2, a3, a4⟩ := ih f1 c1 (by omega) hp1 hs1
    refine ⟨fun k z => a1 k (up k z), a2, a3, fun k hk z => ?_⟩
    by_cases q : k = j
    · subst q; exact a1 k (by rw [ej, hfb]; exact z)
    · exact a4 k (by omega) (li_stp_mono up k z)
/-- the mark stays once set -/
theorem swp_ch : ∀ (j : Nat) (ff : Nat → Int32), (swp n fk fa fb fc j ff 1).2 = 1 := by
  intro j
  induction j with
  | zero => intro ff; rfl
  | succ j ih =>
    intro ff
    by_cases q : fnd n fk fa fb fc ff (nI j) = ff j
    · rw [swp, if_pos q]; exact ih ff
    · rw [swp, if_neg q]; exact ih _
theorem swp_ch0 : ∀ (j : Nat) (ff : Nat → Int32), (swp n fk fa fb fc j ff 0).2 = 0 → (swp n fk fa fb fc j ff 0).1 = ff ∧ ∀ k, k < j → fnd n fk fa fb fc ff (nI k) = ff k := by
  intro j
  induction j with
  | zero => intro ff _; exact ⟨rfl, fun k z => absurd z (Nat.not_lt_zero _)⟩
  | succ j ih =>
    intro ff
    by_cases q : fnd n fk fa fb fc ff (nI j) = ff j
    · rw [swp, if_pos q]
      intro z
      obtain ⟨a, b⟩ := ih ff z
      refine ⟨a, fun k hk => ?_⟩
      by_cases e : k = j
      · subst e; exact q
      · exact b k (by omega)
    · rw [swp, if_neg q]
      intro z
      rw [swp_ch] at z
      exact absurd z (by decide)
theorem swp_01 : ∀ (j : Nat) (ff : Nat → Int32) (ch : Int32), (ch = 0 ∨ ch = 1) → ((swp n fk fa fb fc j ff ch).2 = 0 ∨ (swp n fk fa fb fc j ff ch).2 = 1) := by
  intro j
  induction j with
  | zero => intro ff ch h; exact h
  | succ j ih =>
    intro ff ch h
    by_cases q : fnd n fk fa fb fc ff (nI j) = ff j
    · rw [swp, if_pos q]; exact ih ff ch h
    · rw [swp, if_neg q]; exact ih _ 1 (Or.inr rfl)
theorem flw_ok (hn : n ≤ 60) (hok : okRow n fk fa fb fc) (hv : v < 24) : ∀ (q i : Nat) (ff : Nat → Int32) (ch : Int32), q + i = 61 →
    (∀ k, bt (ff k) v = true → li_stp n fk (tgN fk fa fb) (rdB n fk fa fb fc v) (stB n fk fa v) (fun i => bt (ff i) v) k = true) →
    (∀ k, bt (ff k) v = true → LiveR n fk fa fb fc v k) →
    (∀ k, li_L n fk (tgN fk fa fb) (rdB n fk fa fb fc v) (stB n fk fa v) i k = true → bt (ff k) v = true) →
    (ch = 0 → ∀ k, k < n → fnd n fk fa fb fc ff (nI k) = ff k) →
    ∀ k, bt ((flw n fk fa fb fc q ff ch) k) v = true ↔ LiveR n fk fa fb fc v k := by
  intro q
  induction q with
  | zero =>
    intro i ff ch hi hp hs hL hc k
    show bt (ff k) v = true ↔ _
    exact ⟨hs k, fun z => hL k (li_L_all (by omega) z)⟩
  | succ q ih =>
    intro i ff ch hi hp hs hL hc k
    by_cases c0 : ch = 0
    · rw [flw, if_pos c0]
      refine ⟨hs k, fun z => li_fixL (g := fun j => bt (ff j) v) (fun j hj => ?_) z⟩
      have hjn : j < n := (li_stp_iff.mp hj).1
      show bt (ff j) v = true
      rw [← hc c0 j hjn, fnd_bt hn hok hv hjn]
      exact hj
    · rw [flw, if_neg c0]
      obtain ⟨a1, a2, a3, a4⟩ := swp_ok hn hok hv n ff 0 (Nat.le_refl n) hp hs
      refine ih (i + 1) _ _ (by omega) a2 a3 (fun j hj => a4 j (li_stp_iff.mp hj).1 (li_stp_mono hL j hj)) (fun z => ?_) k
      obtain ⟨b1, b2⟩ := swp_ch0 n ff z
      rw [b1]
      exact b2
/-- THE CLASS'S LIVENESS -/
theorem flw_live (hn : n ≤ 60) (hok : okRow n fk fa fb fc) (hv : v < 24) (k : Nat) : bt (flw n fk fa fb fc 61 (fun _ => 0) 1 k) v = true ↔ LiveR n fk fa fb fc v k :=
  flw_ok hn hok hv 61 0 (fun _ => 0) 1 rfl (fun k z => absurd z (by rw [b_0]; decide)) (fun k z => absurd z (by rw [b_0]; decide)) (fun k z => absurd z (by simp [li_L])) (fun z => absurd z (by decide)) k
theorem hasB_live (hn : n ≤ 60) (hok : okRow n fk fa fb fc) (hv : v < 24) {k : Nat} (hk : k < 61) : hasB (flw n fk fa fb fc 61 (fun _ => 0) 1) (nI k) (nI v) = true ↔ LiveR n fk fa fb fc v k := by
  unfold hasB
  rw [decide_eq_true_eq, sH_nI hk, bt_andz hv]
  exact flw_live hn hok hv k
end MSK
end
section
/-! Pure words for the class's scan. -/
def fO (f : Nat → Int32) (v : Int32) : Int32 := if inB v 24 = true then f v.toNatClampNeg else -2
def rO (f : Nat → Int32) (v : Int32) : Int32 := if inB v 24 = true then f v.toNatClampNeg else -1
def arB (la : Nat → Int32) (v : Int32) : Bool := inB v 24 && decide (¬ la v.toNatClampNeg = -2)
def ovB (ov : Nat → Int32) (v : Int32) : Bool := inB v 24 && decide (¬ ov v.toNatClampNeg = 0)
/-- values with registers: q values are left, v the next -/
def cR (rg : Nat → Int32) : Nat → Nat → Nat → Nat
  | 0, _, c => c
  | q + 1, v, c => if rg v = -1 then cR rg q (v + 1) c else cR rg q (v + 1) (c + 1)
def nF (fi la : Nat → Int32) (j : Nat) (t : Int32) : Nat → Int32 := if la j = -2 then upd fi j t else fi
/-- the times of value v: q ops are left, k the next -/
def ftK (n : Nat) (fk fa ff : Nat → Int32) (v : Nat) : Nat → Nat → (Nat → Int32) → (Nat → Int32) → (Nat → Int32) × (Nat → Int32)
  | 0, _, fi, la => (fi, la)
  | q + 1, k, fi, la =>
    if hasB ff (nI k) (nI v) = true then
      if sA n fk fa (nI k) = nI v then ftK n fk fa ff v q (k + 1) (nF (nF fi la v (nI (2 * k))) (upd la v (nI (2 * k))) v (nI (2 * k + 1))) (upd (upd la v (nI (2 * k))) v (nI (2 * k + 1)))
      else ftK n fk fa ff v q (k + 1) (nF fi la v (nI (2 * k))) (upd la v (nI (2 * k)))
    else if sA n fk fa (nI k) = nI v then ftK n fk fa ff v q (k + 1) (nF fi la v (nI (2 * k + 1))) (upd la v (nI (2 * k + 1)))
    else ftK n fk fa ff v q (k + 1) fi la
def ft0 (ff fi la : Nat → Int32) (v : Nat) : (Nat → Int32) × (Nat → Int32) := if hasB ff 0 (nI v) = true then (nF fi la v (-1), upd la v (-1)) else (fi, la)
def ftO (n : Nat) (fk fa ff : Nat → Int32) : Nat → Nat → (Nat → Int32) → (Nat → Int32) → (Nat → Int32) × (Nat → Int32)
  | 0, _, fi, la => (fi, la)
  | q + 1, v, fi, la => ftO n fk fa ff q (v + 1) (ftK n fk fa ff v n 0 (ft0 ff fi la v).1 (ft0 ff fi la v).2).1 (ftK n fk fa ff v n 0 (ft0 ff fi la v).1 (ft0 ff fi la v).2).2
/-- over a call: q ops are left -/
def ocK (n : Nat) (fk fi la : Nat → Int32) (v : Nat) : Nat → Nat → (Nat → Int32) → (Nat → Int32)
  | 0, _, ov => ov
  | q + 1, k, ov => if kA n fk (nI k) = 9 ∧ arB la (nI v) = true ∧ ¬ nI (2 * k) < fi v ∧ ¬ la v ≤ nI (2 * k) then ocK n fk fi la v q (k + 1) (upd ov v 1) else ocK n fk fi la v q (k + 1) ov
def ocO (n : Nat) (fk fi la : Nat → Int32) : Nat → Nat → (Nat → Int32) → (Nat → Int32)
  | 0, _, ov => ov
  | q + 1, v, ov => ocO n fk fi la q (v + 1) (ocK n fk fi la v n 0 (upd ov v 0))
/-- a value is put in: places down from w -/
def ins (fi : Nat → Int32) (v : Nat) : Nat → (Nat → Int32) → (Nat → Int32)
  | 0, od => upd od 0 (nI v)
  | w + 1, od => if fO fi (od w) ≤ fi v then upd od (w + 1) (nI v) else ins fi v w (upd od (w + 1) (od w))
def odO (fi la : Nat → Int32) : Nat → Nat → Nat → (Nat → Int32) → Nat × (Nat → Int32)
  | 0, _, w, od => (w, od)
  | q + 1, v, w, od => if arB la (nI v) = true then odO fi la q (v + 1) (w + 1) (ins fi v w od) else odO fi la q (v + 1) w od
/-- the least free place: q places are left, p the next -/
def lF (fi la ho : Nat → Int32) (x : Int32) : Nat → Nat → Int32
  | 0, _ => -1
  | q + 1, p => if fO fi x ≤ fO la (ho p) then lF fi la ho x q (p + 1) else nI p
def rhl (la rh : Nat → Int32) : Nat → Nat → Int32 → Int32 → Int32
  | 0, _, f, _ => f
  | q + 1, p, f, g => if fO la (rh p) < g then rhl la rh q (p + 1) f g else rhl la rh q (p + 1) (nI p) (fO la (rh p))
/-- one value and the registers: the registers' row, the holders' row -/
def gvR (fi la rg rh : Nat → Int32) (w : Nat) (x : Int32) : (Nat → Int32) × (Nat → Int32) :=
  if lF fi la rh x w 0 = -1 then
    if rhl la rh w 0 (-1) (-2) = -1 then (rg, rh)
    else if inB (rh (rhl la rh w 0 (-1) (-2)).toNatClampNeg) 24 = false then (rg, rh)
    else if la (rh (rhl la rh w 0 (-1) (-2)).toNatClampNeg).toNatClampNeg ≤ fO la x then (rg, rh)
    else (upd (upd rg (rh (rhl la rh w 0 (-1) (-2)).toNatClampNeg).toNatClampNeg (-1)) x.toNatClampNeg (rhl la rh w 0 (-1) (-2)), upd rh (rhl la rh w 0 (-1) (-2)).toNatClampNeg x)
  else (upd rg x.toNatClampNeg (lF fi la rh x w 0), upd rh (lF fi la rh x w 0).toNatClampNeg x)
def gRs (fi la ov od : Nat → Int32) (w : Nat) : Nat → Nat → (Nat → Int32) → (Nat → Int32) → (Nat → Int32) × (Nat → Int32)
  | 0, _, rg, rh => (rg, rh)
  | q + 1, i, rg, rh => if ovB ov (od i) = true then gRs fi la ov od w q (i + 1) rg rh else gRs fi la ov od w q (i + 1) (gvR fi la rg rh w (od i)).1 (gvR fi la rg rh w (od i)).2
def gvS (fi la sl sh : Nat → Int32) (c : Int32) (x : Int32) : (Nat → Int32) × (Nat → Int32) × Int32 :=
  if lF fi la sh x 24 0 = -1 then (sl, sh, c) else (upd sl x.toNatClampNeg (lF fi la sh x 24 0), upd sh (lF fi la sh x 24 0).toNatClampNeg x, if c < lF fi la sh x 24 0 + 1 then lF fi la sh x 24 0 + 1 else c)
def gSs (fi la rg od : Nat → Int32) : Nat → Nat → (Nat → Int32) → (Nat → Int32) → Int32 → (Nat → Int32) × (Nat → Int32) × Int32
  | 0, _, sl, sh, c => (sl, sh, c)
  | q + 1, i, sl, sh, c => if rg (od i).toNatClampNeg = -1 then gSs fi la rg od q (i + 1) (gvS fi la sl sh c (od i)).1 (gvS fi la sl sh c (od i)).2.1 (gvS fi la sl sh c (od i)).2.2 else gSs fi la rg od q (i + 1) sl sh c
theorem lF_in {fi la ho : Nat → Int32} {x : Int32} : ∀ (q p : Nat), lF fi la ho x q p = -1 ∨ ∃ j, p ≤ j ∧ j < p + q ∧ lF fi la ho x q p = nI j := by
  intro q
  induction q with
  | zero => intro p; exact Or.inl rfl
  | succ q ih =>
    intro p
    by_cases h : fO fi x ≤ fO la (ho p)
    · rw [lF, if_pos h]
      rcases ih (p + 1) with e | ⟨j, h1, h2, h3⟩
      · exact Or.inl e
      · exact Or.inr ⟨j, by omega, by omega, h3⟩
    · rw [lF, if_neg h]
      exact Or.inr ⟨p, Nat.le_refl p, by omega, rfl⟩
theorem rhl_in {la rh : Nat → Int32} : ∀ (q p : Nat) (f g : Int32), rhl la rh q p f g = f ∨ ∃ j, p ≤ j ∧ j < p + q ∧ rhl la rh q p f g = nI j := by
  intro q
  induction q with
  | zero => intro p f g; exact Or.inl rfl
  | succ q ih =>
    intro p f g
    by_cases h : fO la (rh p) < g
    · rw [rhl, if_pos h]
      rcases ih (p + 1) f g with e | ⟨j, h1, h2, h3⟩
      · exact Or.inl e
      · exact Or.inr ⟨j, by omega, by omega, h3⟩
    · rw [rhl, if_neg h]
      rcases ih (p + 1) (nI p) (fO la (rh p)) with e | ⟨j, h1, h2, h3⟩
      · exact Or.inr ⟨p, Nat.le_refl p, by omega, e⟩
      · exact Or.inr ⟨j, by omega, by omega, h3⟩
theorem lF_inB {fi la ho : Nat → Int32} {x : Int32} {w N : Nat} (hw : w ≤ N) (h : ¬ lF fi la ho x w 0 = -1) (hN : N ≤ 1000 := by decide) : inB (lF fi la ho x w 0) N = true := by
  obtain ⟨j, -, h2, h3⟩ := (lF_in w 0).resolve_left h
  rw [h3, inB_nI (by omega)]
  exact decide_eq_true (by omega)
theorem rhl_inB {la rh : Nat → Int32} {w N : Nat} {g : Int32} (hw : w ≤ N) (h : ¬ rhl la rh w 0 (-1) g = -1) (hN : N ≤ 1000 := by decide) : inB (rhl la rh w 0 (-1) g) N = true := by
  obtain ⟨j, -, h2, h3⟩ := (rhl_in w 0 (-1) g).resolve_left h
  rw [h3, inB_nI (by omega)]
  exact decide_eq_true (by omega)
end
section
/-! The order of the values: the class's row, the model's choice of the next one. -/
/-- a comes ahead of b: by first times, then by numbers -/
def bef (fi : Nat → Int32) (a b : Nat) : Prop := (fi a).toInt < (fi b).toInt ∨ ((fi a).toInt = (fi b).toInt ∧ a < b)
theorem bef_irr {fi : Nat → Int32} {a : Nat} : ¬ bef fi a a := by unfold bef; omega
theorem bef_tr {fi : Nat → Int32} {a b c : Nat} (h : bef fi a b) (k : bef fi b c) : bef fi a c := by unfold bef at *; omega
theorem bef_tot {fi : Nat → Int32} {a b : Nat} (h : a ≠ b) : bef fi a b ∨ bef fi b a := by unfold bef; omega
theorem fO_nI {f : Nat → Int32} {a : Nat} (h : a < 24) : fO f (nI a) = f a := by
  unfold fO
  rw [if_pos (by rw [inB_nI (by omega)]; exact decide_eq_true h), nI_clamp (by omega)]
theorem rO_nI {f : Nat → Int32} {a : Nat} (h : a < 24) : rO f (nI a) = f a := by
  unfold rO
  rw [if_pos (by rw [inB_nI (by omega)]; exact decide_eq_true h), nI_clamp (by omega)]
theorem arB_nI {la : Nat → Int32} {a : Nat} (h : a < 24) : arB la (nI a) = decide (¬ la a = -2) := by
  unfold arB
  rw [inB_nI (by omega), decide_eq_true h, nI_clamp (by omega), Bool.true_and]
theorem ovB_nI {ov : Nat → Int32} {a : Nat} (h : a < 24) : ovB ov (nI a) = decide (¬ ov a = 0) := by
  unfold ovB
  rw [inB_nI (by omega), decide_eq_true h, nI_clamp (by omega), Bool.true_and]
theorem ins_hi {fi : Nat → Int32} {v : Nat} : ∀ (w : Nat) (od : Nat → Int32) (i : Nat), w < i → ins fi v w od i = od i := by
  intro w
  induction w with
  | zero => intro od i h; rw [ins]; exact pk_un (by omega)
  | succ w ih =>
    intro od i h
    by_cases q : fO fi (od w) ≤ fi v
    · rw [ins, if_pos q]; exact pk_un (by omega)
    · rw [ins, if_neg q, ih _ i (by omega)]; exact pk_un (by omega)
theorem ins_spec {fi : Nat → Int32} {v : Nat} : ∀ (w : Nat) (od : Nat → Int32), ∃ p, p ≤ w ∧ (∀ i, i < p → ins fi v w od i = od i) ∧ ins fi v w od p = nI v ∧ (∀ i, p < i → i ≤ w → ins fi v w od i = od (i - 1)) ∧ (p = 0 ∨ fO fi (od (p - 1)) ≤ fi v) ∧ ∀ i, p ≤ i → i < w → ¬ fO fi (od i) ≤ fi v := by
  intro w
  induction w with
  | zero => intro od; exact ⟨0, Nat.le_refl 0, fun i h => absurd h (Nat.not_lt_zero _), by rw [ins]; exact pk_us, fun i h1 h2 => by omega, Or.inl rfl, fun i _ h => absurd h (Nat.not_lt_zero _)⟩
  | succ w ih =>
    intro od
    by_cases q : fO fi (od w) ≤ fi v
    · refine ⟨w + 1, Nat.le_refl _, fun i h => ?_, ?_, fun i h1 h2 => by omega, Or.inr q, fun i h1 h2 => by omega⟩
      · rw [ins, if_pos q]; exact pk_un (by omega)
      · rw [ins, if_pos q]; exact pk_us
    · obtain ⟨p, h1, h2, h3, h4, h5, h6⟩ := ih (upd od (w + 1) (od w))
      have eo : ∀ i, i ≤ w → upd od (w + 1) (od w) i = od i := fun i hi => pk_un (by omega)
      refine ⟨p, by omega, fun i h => ?_, ?_, fun i g1 g2 => ?_, ?_, fun i g1 g2 => ?_⟩
      · rw [ins, if_neg q, h2 i h, eo i (by omega)]
      · rw [ins, if_neg q, h3]
      · rw [ins, if_neg q]
        by_cases e : i = w + 1
        · subst e; rw [ins_hi _ _ _ (by omega), pk_us]; rfl
        · rw [h4 i g1 (by omega), eo _ (by omega)]
      · rcases h5 with h5 | h5
        · exact Or.inl h5
        · by_cases e : p = 0
          · exact Or.inl e
          · rw [eo _ (by omega)] at h5; exact Or.inr h5
      · by_cases e : i = w
        · subst e; exact q
        · have := h6 i g1 (by omega)
          rw [eo i (by omega)] at this
          exact this
/-- the row od holds, in their order, just the values below v that are -/
def ordd (fi la : Nat → Int32) (v w : Nat) (od : Nat → Int32) : Prop :=
  w ≤ v ∧ (∀ i, i < w → ∃ a, a < v ∧ od i = nI a ∧ arB la (nI a) = true) ∧ (∀ i j a b, i < j → j < w → od i = nI a → od j = nI b → a < 24 → b < 24 → bef fi a b) ∧ ∀ a, a < v → arB la (nI a) = true → ∃ i, i < w ∧ od i = nI a
theorem ordd_ins {fi la : Nat → Int32} {v w : Nat} {od : Nat → Int32} (hv : v < 24) (h : ordd fi la v w od) (ha : arB la (nI v) = true) : ordd fi la (v + 1) (w + 1) (ins fi v w od) := by
  obtain ⟨h1, h2, h3, h4⟩ := h
  obtain ⟨p, p1, p2, p3, p4, p5, p6⟩ := ins_spec (fi := fi) (v := v) w od
  have inj : ∀ {a b : Nat}, a < 24 → b < 24 → nI a = nI b → a = b := fun ha hb e => nI_inj (by omega) (by omega) e
  -- where an entry comes from
  have src : ∀ i, i < w + 1 → (i < p ∧ ins fi v w od i = od i) ∨ (i = p ∧ ins fi v w od i = nI v) ∨ (p < i ∧ i - 1 < w ∧ ins fi v w od i = od (i - 1)) := by
    intro i hi
    rcases Nat.lt_trichotomy i p with g | g | g
    · exact Or.inl ⟨g, p2 i g⟩
    · subst g; exact Or.inr (Or.inl ⟨rfl, p3⟩)
    · exact Or.inr (Or.inr ⟨g, by omega, p4 i g (by omega)⟩)
  -- what stands ahead of p is not above v; what stands from p on is
  have lo : ∀ i a, i < p → od i = nI a → a < v → bef fi a v := by
    intro i a hi e av
    have hp0 : p ≠ 0 := by omega
    have q : fO fi (od (p - 1)) ≤ fi v := p5.resolve_left hp0
    obtain ⟨b, bv, eb, -⟩ := h2 (p - 1) (by omega)
    rw [eb, fO_nI (by omega), Int32.le_iff_toInt_le] at q
    by_cases e2 : i = p - 1
    · subst e2
      have : a = b := inj (by omega) (by omega) (e.symm.trans eb)
      subst this
      unfold bef; omega
    · have := h3 i (p - 1) a b (by omega) (by omega) e eb (by omega) (by omega)
      unfold bef at *; omega
  have hi : ∀ i a, p ≤ i → i < w → od i = nI a → a < v → bef fi v a := by
    intro i a g1 g2 e av
    have q := p6 i g1 g2
    rw [e, fO_nI (by omega), Int32.le_iff_toInt_le] at q
    unfold bef; omega
  refine ⟨by omega, fun i hi0 => ?_, fun i j a b hij hj ea eb a24 b24 => ?_, fun a hav har => ?_⟩
  · rcases src i hi0 with ⟨g, e⟩ | ⟨g, e⟩ | ⟨g, g2, e⟩
    · obtain ⟨a, av, ea, eb⟩ := h2 i (by omega)
      exact ⟨a, by omega, e.trans ea, eb⟩
    · exact ⟨v, by omega, e, ha⟩
    · obtain ⟨a, av, ea, eb⟩ := h2 (i - 1) g2
      exact ⟨a, by omega, e.trans ea, eb⟩
  · rcases src i (by omega) with ⟨g, e⟩ | ⟨g, e⟩ | ⟨g, g2, e⟩
    · obtain ⟨a', av', ea', -⟩ := h2 i (by omega)
      have : a = a' := inj a24 (by omega) (ea.symm.trans (e.trans ea'))
      subst this
      rcases src j hj with ⟨k, f⟩ | ⟨k, f⟩ | ⟨k, k2, f⟩
      · exact h3 i j a b hij (by omega) ea' (f.symm.trans eb) a24 b24
      · have : b = v := inj b24 hv (eb.symm.trans f)
        subst this
        exact lo i a g ea' av'
      · exact h3 i (j - 1) a b (by omega) (by omega) ea' (f.symm.trans eb) a24 b24
    · have : a = v := inj a24 hv (ea.symm.trans e)
      subst this
      rcases src j hj with ⟨k, f⟩ | ⟨k, f⟩ | ⟨k, k2, f⟩
      · omega
      · omega
      · obtain ⟨b', bv', eb', -⟩ := h2 (j - 1) k2
        have : b = b' := inj b24 (by omega) (eb.symm.trans (f.trans eb'))
        subst this
        exact hi (j - 1) b (by omega) k2 eb' bv'
    · rcases src j hj with ⟨k, f⟩ | ⟨k, f⟩ | ⟨k, k2, f⟩
      · omega
      · omega
      · exact h3 (i - 1) (j - 1) a b (by omega) k2 (e.symm.trans ea) (f.symm.trans eb) a24 b24
  · by_cases e : a = v
    · subst e; exact ⟨p, by omega, p3⟩
    · obtain ⟨i, hi0, ei⟩ := h4 a (by omega) har
      by_cases g : i < p
      · exact ⟨i, by omega, (p2 i g).trans ei⟩
      · exact ⟨i + 1, by omega, (p4 (i + 1) (by omega) (by omega)).trans ei⟩
theorem ordd_skip {fi la : Nat → Int32} {v w : Nat} {od : Nat → Int32} (h : ordd fi la v w od) (ha : ¬ arB la (nI v) = true) : ordd fi la (v + 1) w od := by
  obtain ⟨h1, h2, h3, h4⟩ := h
  refine ⟨by omega, fun i hi => ?_, h3, fun a hav har => ?_⟩
  · obtain ⟨a, av, e⟩ := h2 i hi
    exact ⟨a, by omega, e⟩
  · by_cases e : a = v
    · subst e; exact absurd har ha
    · exact h4 a (by omega) har
theorem odO_ok {fi la : Nat → Int32} : ∀ (q v w : Nat) (od : Nat → Int32), q + v = 24 → ordd fi la v w od → ordd fi la 24 (odO fi la q v w od).1 (odO fi la q v w od).2 := by
  intro q
  induction q with
  | zero => intro v w od hq h; rw [show v = 24 by omega] at h; exact h
  | succ q ih =>
    intro v w od hq h
    by_cases g : arB la (nI v) = true
    · rw [odO, if_pos g]; exact ih _ _ _ (by omega) (ordd_ins (by omega) h g)
    · rw [odO, if_neg g]; exact ih _ _ _ (by omega) (ordd_skip h g)
theorem ordd_0 {fi la od : Nat → Int32} : ordd fi la 0 0 od := ⟨Nat.le_refl 0, fun i h => absurd h (Nat.not_lt_zero _), fun i j a b _ h => absurd h (Nat.not_lt_zero _), fun a h => absurd h (Nat.not_lt_zero _)⟩
/-- THE CLASS'S ORDER -/
theorem odO_all (fi la od : Nat → Int32) : ordd fi la 24 (odO fi la 24 0 0 od).1 (odO fi la 24 0 0 od).2 := odO_ok 24 0 0 od rfl ordd_0
/-- the model's choice: q values are left, v the next, b the best so far -/
def nO (may : Nat → Bool) (fi : Nat → Int32) : Nat → Nat → Int32 → Int32
  | 0, _, b => b
  | q + 1, v, b => if may v = true ∧ (b = -1 ∨ fi v < fi b.toNatClampNeg) then nO may fi q (v + 1) (nI v) else nO may fi q (v + 1) b
theorem nI_ne_m1 {a : Nat} (h : a < 2 ^ 31) : nI a ≠ -1 := by
  intro e
  have := congrArg Int32.toInt e
  rw [nI_toInt h, show ((-1 : Int32)).toInt = -1 from by decide] at this
  omega
theorem nO_ok {may : Nat → Bool} {fi : Nat → Int32} : ∀ (q v : Nat) (b : Int32), q + v = 24 →
    ((b = -1 ∧ ∀ a, a < v → may a = false) ∨ ∃ a, a < v ∧ b = nI a ∧ may a = true ∧ ∀ c, c < v → may c = true → c ≠ a → bef fi a c) →
    ((nO may fi q v b = -1 ∧ ∀ a, a < 24 → may a = false) ∨ ∃ a, a < 24 ∧ nO may fi q v b = nI a ∧ may a = true ∧ ∀ c, c < 24 → may c = true → c ≠ a → bef fi a c) := by
  intro q
  induction q with
  | zero => intro v b hq h; rw [show v = 24 by omega] at h; exact h
  | succ q ih =>
    intro v b hq h
    by_cases g : may v = true ∧ (b = -1 ∨ fi v < fi b.toNatClampNeg)
    · rw [nO, if_pos g]
      refine ih _ _ (by omega) (Or.inr ⟨v, by omega, rfl, g.1, fun c hc hm hne => ?_⟩)
      rcases h with ⟨e, h0⟩ | ⟨a, av, e, ma, hmin⟩
      · rw [h0 c (by omega)] at hm; exact absurd hm (by decide)
      · have g2 := g.2.resolve_left (by rw [e]; exact nI_ne_m1 (by omega))
        rw [e, nI_clamp (by omega), Int32.lt_iff_toInt_lt] at g2
        by_cases ca : c = a
        · subst ca; unfold bef; omega
        · have := hmin c (by omega) hm ca
          unfold bef at *; omega
    · rw [nO, if_neg g]
      refine ih _ _ (by omega) ?_
      rcases h with ⟨e, h0⟩ | ⟨a, av, e, ma, hmin⟩
      · refine Or.inl ⟨e, fun c hc => ?_⟩
        by_cases cv : c = v
        · subst cv
          cases hm : may c with
          | false => rfl
          | true => exact absurd ⟨hm, Or.inl e⟩ g
        · exact h0 c (by omega)
      · refine Or.inr ⟨a, by omega, e, ma, fun c hc hm hne => ?_⟩
        by_cases cv : c = v
        · subst cv
          have : ¬ fi c < fi a := by
            intro z
            exact g ⟨hm, Or.inr (by rw [e, nI_clamp (by omega)]; exact z)⟩
          rw [Int32.lt_iff_toInt_lt] at this
          unfold bef; omega
        · exact hmin c (by omega) hm hne
theorem nO_all (may : Nat → Bool) (fi : Nat → Int32) : (nO may fi 24 0 (-1) = -1 ∧ ∀ a, a < 24 → may a = false) ∨ ∃ a, a < 24 ∧ nO may fi 24 0 (-1) = nI a ∧ may a = true ∧ ∀ c, c < 24 → may c = true → c ≠ a → bef fi a c :=
  nO_ok 24 0 (-1) rfl (Or.inl ⟨rfl, fun a h => absurd h (Nat.not_lt_zero _)⟩)
end
section
/-! The model's search along the ways finds liveness. -/
def suc (kd : Nat → Int32) (tg : Nat → Nat) (t u : Nat) : Prop := (kd t = 7 ∧ u = tg t) ∨ (kd t = 8 ∧ (u = tg t ∨ u = t + 1)) ∨ (kd t ≠ 7 ∧ kd t ≠ 8 ∧ kd t ≠ 11 ∧ u = t + 1)
theorem li_nx_iff {kd : Nat → Int32} {tg : Nat → Nat} {g : Nat → Bool} {k : Nat} : li_nx kd tg g k = true ↔ ∃ u, suc kd tg k u ∧ g u = true := by
  unfold li_nx suc
  by_cases h7 : kd k = 7
  · rw [if_pos h7]
    constructor
    · intro z; exact ⟨_, Or.inl ⟨h7, rfl⟩, z⟩
    · rintro ⟨u, (⟨-, e⟩ | ⟨e, -⟩ | ⟨e, -⟩), z⟩
      · rw [← e]; exact z
      · rw [h7] at e; exact absurd e (by decide)
      · exact absurd h7 e
  · rw [if_neg h7]
    by_cases h8 : kd k = 8
    · rw [if_pos h8, Bool.or_eq_true]
      constructor
      · rintro (z | z)
        · exact ⟨_, Or.inr (Or.inl ⟨h8, Or.inl rfl⟩), z⟩
        · exact ⟨_, Or.inr (Or.inl ⟨h8, Or.inr rfl⟩), z⟩
      · rintro ⟨u, (⟨e, -⟩ | ⟨-, (e | e)⟩ | ⟨-, e, -⟩), z⟩
        · exact absurd e h7
        · rw [← e]; exact Or.inl z
        · rw [← e]; exact Or.inr z
        · exact absurd h8 e
    · rw [if_neg h8]
      by_cases h11 : kd k = 11
      · rw [if_pos h11]
        constructor
        · intro z; exact absurd z (by decide)
        · rintro ⟨u, (⟨e, -⟩ | ⟨e, -⟩ | ⟨-, -, e, -⟩), -⟩
          · exact absurd e h7
          · exact absurd e h8
          · exact absurd h11 e
      · rw [if_neg h11]
        constructor
        · intro z; exact ⟨_, Or.inr (Or.inr ⟨h7, h8, h11, rfl⟩), z⟩
        · rintro ⟨u, (⟨e, -⟩ | ⟨e, -⟩ | ⟨-, -, -, e⟩), z⟩
          · exact absurd e h7
          · exact absurd e h8
          · rw [← e]; exact z
theorem cnB_bd {g : Nat → Bool} {n : Nat} : ∀ N, (∀ t, t < N → g t = true → t < n) → cnB g N ≤ n := by
  intro N
  induction N with
  | zero => intro _; exact Nat.zero_le _
  | succ N ih =>
    intro h
    show cnB g N + _ ≤ n
    by_cases q : g N = true
    · have h1 := h N (by omega) q
      have h2 := cnB_le g N
      rw [if_pos q]; omega
    · rw [if_neg q]; exact ih fun t ht => h t (by omega)
theorem cnB_congr {g g' : Nat → Bool} : ∀ N, (∀ t, t < N → g t = g' t) → cnB g N = cnB g' N := by
  intro N
  induction N with
  | zero => intro _; rfl
  | succ N ih => intro h; show cnB g N + _ = cnB g' N + _; rw [ih fun t ht => h t (by omega), h N (by omega)]
theorem cnB_one {g g' : Nat → Bool} {u : Nat} (h1 : g u = false) (h2 : g' u = true) (h3 : ∀ t, t ≠ u → g' t = g t) : ∀ N, u < N → cnB g' N = cnB g N + 1 := by
  intro N
  induction N with
  | zero => intro h; exact absurd h (Nat.not_lt_zero _)
  | succ N ih =>
    intro h
    show cnB g' N + _ = cnB g N + _ + 1
    by_cases e : u = N
    · subst e
      rw [cnB_congr (g := g') (g' := g) u fun t ht => h3 t (by omega), h1, h2]
      rfl
    · rw [ih (by omega), h3 N (Ne.symm e)]; omega
section BFS
variable {n : Nat} {kd : Nat → Int32} {tg : Nat → Nat} {rd st : Nat → Bool} {fr : Nat}
/-- the search under way: the first i of the ways are done -/
def bfI (n : Nat) (kd : Nat → Int32) (tg : Nat → Nat) (rd st : Nat → Bool) (fr i ways : Nat) (wy sn : Nat → Int32) : Prop :=
  (∀ t, t < 61 → sn t = 0 ∨ sn t = 1) ∧ (∀ t, t < 61 → sn t = 1 → t < n) ∧ (∀ j, j < ways → ∃ t, t < n ∧ wy j = nI t ∧ sn t = 1) ∧ (∀ t, t < n → sn t = 1 → ∃ j, j < ways ∧ wy j = nI t) ∧
  ways = cnB (fun t => decide (sn t = 1)) 61 ∧ (∀ t, t < n → sn t = 1 → li_Live n kd tg rd st t → li_Live n kd tg rd st fr) ∧
  (∀ j, j < i → ∀ t, t < n → wy j = nI t → rd t = false ∧ (st t = true ∨ ∀ u, suc kd tg t u → u < n → sn u = 1)) ∧ i ≤ ways ∧ sn fr = 1
theorem bf_ways {i ways : Nat} {wy sn : Nat → Int32} (h : bfI n kd tg rd st fr i ways wy sn) : ways ≤ n := by
  obtain ⟨-, h2, -, -, h5, -⟩ := h
  rw [h5]
  exact cnB_bd 61 fun t ht z => h2 t ht (of_decide_eq_true z)
def gtS (n ways : Nat) (wy sn : Nat → Int32) (u : Nat) : Nat × (Nat → Int32) × (Nat → Int32) := if u < n ∧ sn u = 0 then (ways + 1, upd wy ways (nI u), upd sn u 1) else (ways, wy, sn)
theorem bf_go {i ways : Nat} {wy sn : Nat → Int32} (hn : n ≤ 60) (h : bfI n kd tg rd st fr i ways wy sn) {u : Nat} (hL : li_Live n kd tg rd st u → li_Live n kd tg rd st fr) :
    bfI n kd tg rd st fr i (gtS n ways wy sn u).1 (gtS n ways wy sn u).2.1 (gtS n ways wy sn u).2.2 ∧ (u < n → (gtS n ways wy sn u).2.2 u = 1) ∧ (∀ t, sn t = 1 → (gtS n ways wy sn u).2.2 t = 1) ∧ (∀ j, j < ways → (gtS n ways wy sn u).2.1 j = wy j) ∧ ways ≤ (gtS n ways wy sn u).1 := by
  unfold gtS
  by_cases q : u < n ∧ sn u = 0
  · rw [if_pos q]
    dsimp only
    obtain ⟨hu, h0⟩ := q
    obtain ⟨h1, h2, h3, h4, h5, h6, h7, h8, h9⟩ := h
    have un : ∀ t, t ≠ u → upd sn u 1 t = sn t := fun t ht => pk_un ht
    have up : ∀ t, sn t = 1 → upd sn u 1 t = 1 := by
      intro t ht
      by_cases e : t = u
      · subst e; exact pk_us
      · rw [un t e]; exact ht
    have wn : ∀ j, j < ways → upd wy ways (nI u) j = wy j := fun j hj => pk_un (by omega)
    refine ⟨⟨fun t ht => ?_, fun t ht z => ?_, fun j hj => ?_, fun t ht z => ?_, ?_, fun t ht z => ?_, fun j hj t ht e => ?_, by omega, up fr h9⟩, fun _ => pk_us, up, wn, by omega⟩
    · by_cases e : t = u
      · subst e; exact Or.inr pk_us
      · rw [un t e]; exact h1 t ht
    · by_cases e : t = u
      · subst e; exact hu
      · rw [un t e] at z; exact h2 t ht z
    · by_cases e : j = ways
      · subst e; exact ⟨u, hu, pk_us, pk_us⟩
      · obtain ⟨t, a, b, c⟩ := h3 j (by show j < ways; have : j < ways + 1 := hj; omega)
        exact ⟨t, a, (wn j (by have : j < ways + 1 := hj; omega)).trans b, up t c⟩
    · by_cases e : t = u
      · subst e; exact ⟨ways, Nat.lt_succ_self _, pk_us⟩
      · rw [un t e] at z
        obtain ⟨j, a, b⟩ := h4 t ht z
        exact ⟨j, Nat.lt_succ_of_lt a, (wn j a).trans b⟩
    · rw [h5]
      refine (cnB_one (u := u) (by rw [h0]; decide) (by rw [pk_us]; decide) (fun t ht => by rw [un t ht]) 61 (by omega)).symm
    · by_cases e : t = u
      · subst e; exact hL
      · rw [un t e] at z; exact h6 t ht z
    · rw [wn j (by omega)] at e
      obtain ⟨a, b⟩ := h7 j hj t ht e
      refine ⟨a, b.imp id fun b w hw hwn => up w (b w hw hwn)⟩
  · rw [if_neg q]
    refine ⟨h, fun hu => ?_, fun t z => z, fun j _ => rfl, Nat.le_refl _⟩
    rcases h.1 u (by omega) with z | z
    · exact absurd ⟨hu, z⟩ q
    · exact z
theorem bf_next {i ways : Nat} {wy sn : Nat → Int32} (hn : n ≤ 60) (h : bfI n kd tg rd st fr i ways wy sn) (hi : i < ways) {t : Nat} (ht : t < n) (e : wy i = nI t) (hr : rd t = false) (hs : st t = true ∨ ∀ u, suc kd tg t u → u < n → sn u = 1) : bfI n kd tg rd st fr (i + 1) ways wy sn := by
  obtain ⟨h1, h2, h3, h4, h5, h6, h7, h8, h9⟩ := h
  refine ⟨h1, h2, h3, h4, h5, h6, fun j hj t' ht' e' => ?_, hi, h9⟩
  by_cases q : j = i
  · subst q
    have : t' = t := nI_inj (by omega) (by omega) (e'.symm.trans e)
    subst this
    exact ⟨hr, hs⟩
  · exact h7 j (by omega) t' ht' e'
theorem bf_end {ways : Nat} {wy sn : Nat → Int32} (hf : fr < n) (h : bfI n kd tg rd st fr ways ways wy sn) : ¬ li_Live n kd tg rd st fr := by
  intro z
  obtain ⟨h1, h2, h3, h4, h5, h6, h7, h8, h9⟩ := h
  have key := li_fixL (g := fun k => decide (k < n ∧ ¬ sn k = 1)) (fun k hk => ?_) z
  · exact (of_decide_eq_true key).2 h9
  · obtain ⟨a, b⟩ := li_stp_iff.mp hk
    refine decide_eq_true ⟨a, fun hs => ?_⟩
    obtain ⟨j, hj, e⟩ := h4 k a hs
    obtain ⟨r, s⟩ := h7 j hj k a e
    rcases b with b | ⟨b, b2⟩
    · rw [r] at b; exact absurd b (by decide)
    · obtain ⟨u, su, gu⟩ := li_nx_iff.mp b
      rcases s with s | s
      · rw [s] at b2; exact absurd b2 (by decide)
      · exact (of_decide_eq_true gu).2 (s u su (of_decide_eq_true gu).1)
theorem bf_hit {i ways : Nat} {wy sn : Nat → Int32} (h : bfI n kd tg rd st fr i ways wy sn) {t : Nat} (ht : t < n) (hs : sn t = 1) (hr : rd t = true) : li_Live n kd tg rd st fr :=
  h.2.2.2.2.2.1 t ht hs ⟨1, li_stp_iff.mpr ⟨ht, Or.inl hr⟩⟩
theorem bf_suc {i ways : Nat} {wy sn : Nat → Int32} (h : bfI n kd tg rd st fr i ways wy sn) {t u : Nat} (ht : t < n) (hs : sn t = 1) (hst : st t = false) (hu : suc kd tg t u) : li_Live n kd tg rd st u → li_Live n kd tg rd st fr := by
  rintro ⟨j, hj⟩
  exact h.2.2.2.2.2.1 t ht hs ⟨j + 1, li_stp_iff.mpr ⟨ht, Or.inr ⟨li_nx_iff.mpr ⟨u, hu, hj⟩, hst⟩⟩⟩
theorem bf_0 (hn : n ≤ 60) (hf : fr < n) {wy sn : Nat → Int32} (h0 : ∀ t, t < 61 → sn t = 0) : bfI n kd tg rd st fr 0 1 (upd wy 0 (nI fr)) (upd sn fr 1) := by
  have un : ∀ t, t ≠ fr → upd sn fr 1 t = sn t := fun t ht => pk_un ht
  refine ⟨fun t ht => ?_, fun t ht z => ?_, fun j hj => ?_, fun t ht z => ?_, ?_, fun t ht z => ?_, fun j hj => absurd hj (Nat.not_lt_zero _), Nat.zero_le _, pk_us⟩
  · by_cases e : t = fr
    · subst e; exact Or.inr pk_us
    · rw [un t e]; exact Or.inl (h0 t ht)
  · by_cases e : t = fr
    · subst e; exact hf
    · rw [un t e, h0 t ht] at z; exact absurd z (by decide)
  · rw [show j = 0 by omega]; exact ⟨fr, hf, pk_us, pk_us⟩
  · by_cases e : t = fr
    · subst e; exact ⟨0, Nat.zero_lt_one, pk_us⟩
    · rw [un t e, h0 t (by omega)] at z; exact absurd z (by decide)
  · rw [cnB_one (g := fun t => decide (sn t = 1)) (u := fr) (by rw [h0 fr (by omega)]; decide) (by rw [pk_us]; decide) (fun t ht => by rw [un t ht]) 61 (by omega)]
    have : cnB (fun t => decide (sn t = 1)) 61 = cnB (fun _ => false) 61 := cnB_congr 61 fun t ht => by rw [h0 t ht]; decide
    rw [this]; decide
  · by_cases e : t = fr
    · subst e; exact id
    · rw [un t e, h0 t (by omega)] at z; exact absurd z (by decide)
end BFS
end
section
/-! Pure words for the class's machine. -/
def mA (f : Nat → Int32) (n : Nat) (i : Int32) : Int32 := if inB i n = true then f i.toNatClampNeg else 0
def rdM (rg sl mr ms : Nat → Int32) (v : Int32) : Int32 := if rO rg v = -1 then mA ms 24 (rO sl v) else mA mr 8 (rO rg v)
/-- what is set goes to the value's place: the registers' row, the slots' row -/
def wrM (rg sl mr ms : Nat → Int32) (v x : Int32) : (Nat → Int32) × (Nat → Int32) :=
  if inB (rO rg v) 8 = true then (upd mr (rO rg v).toNatClampNeg x, ms) else if inB (rO sl v) 24 = true then (mr, upd ms (rO sl v).toNatClampNeg x) else (mr, ms)
def rck (k x y : Int32) : Int32 := if k = 1 then x + y else if k = 2 then x - y else if k = 3 then x * y else if k = 4 then (if y ≤ x then 0 else 1) else if k = 5 then (if x < y then y else x) else x
end
