section
-- ===== PART A: goes FIRST, ahead of the names: the tables' words, and 'selects' of the private methods out of them =====
/-- a private method of a class that the tables say can be made, by its rows of tables_1 -/
def lw_okq (q : MethodName × Nat) : Prop := (q.1.cls ≠ "java/lang/invoke/MethodHandle" ∧ q.1.cls ≠ "java/lang/invoke/VarHandle") ∧ Cond.instantiable q.1.cls q.2 ∈ tables_1 ∧ Cond.privateMethod q.1 ∈ tables_1 ∧ Cond.instanceMethod q.1 ∈ tables_1
theorem lw_p0 : lw_okq (⟨"ScanMill", "forgetScan", "()V"⟩, 7) := ⟨⟨by decide +kernel, by decide +kernel⟩, List.mem_of_getElem? (i := 16) (by decide +kernel), List.mem_of_getElem? (i := 168) (by decide +kernel), List.mem_of_getElem? (i := 169) (by decide +kernel)⟩
theorem lw_p1 : lw_okq (⟨"ScanMill$Liveness", "sweep", "(LScanMill$Row;)Z"⟩, 2) := ⟨⟨by decide +kernel, by decide +kernel⟩, List.mem_of_getElem? (i := 47) (by decide +kernel), List.mem_of_getElem? (i := 203) (by decide +kernel), List.mem_of_getElem? (i := 204) (by decide +kernel)⟩
theorem lw_p2 : lw_okq (⟨"ScanMill$Row", "holds", "(I)Z"⟩, 5) := ⟨⟨by decide +kernel, by decide +kernel⟩, List.mem_of_getElem? (i := 24) (by decide +kernel), List.mem_of_getElem? (i := 219) (by decide +kernel), List.mem_of_getElem? (i := 220) (by decide +kernel)⟩
theorem lw_p3 : lw_okq (⟨"ScanMill$Liveness", "setBehind", "(LScanMill$Row;I)I"⟩, 2) := ⟨⟨by decide +kernel, by decide +kernel⟩, List.mem_of_getElem? (i := 47) (by decide +kernel), List.mem_of_getElem? (i := 231) (by decide +kernel), List.mem_of_getElem? (i := 232) (by decide +kernel)⟩
theorem lw_p4 : lw_okq (⟨"ScanMill$Liveness", "setAhead", "(I)I"⟩, 2) := ⟨⟨by decide +kernel, by decide +kernel⟩, List.mem_of_getElem? (i := 47) (by decide +kernel), List.mem_of_getElem? (i := 240) (by decide +kernel), List.mem_of_getElem? (i := 241) (by decide +kernel)⟩
theorem lw_p5 : lw_okq (⟨"ScanMill$Places", "forget", "(I)V"⟩, 11) := ⟨⟨by decide +kernel, by decide +kernel⟩, List.mem_of_getElem? (i := 60) (by decide +kernel), List.mem_of_getElem? (i := 252) (by decide +kernel), List.mem_of_getElem? (i := 253) (by decide +kernel)⟩
theorem lw_p6 : lw_okq (⟨"ScanMill$Places", "findTimes", "(LScanMill$Row;LScanMill$Liveness;)V"⟩, 11) := ⟨⟨by decide +kernel, by decide +kernel⟩, List.mem_of_getElem? (i := 60) (by decide +kernel), List.mem_of_getElem? (i := 261) (by decide +kernel), List.mem_of_getElem? (i := 262) (by decide +kernel)⟩
theorem lw_p7 : lw_okq (⟨"ScanMill$Places", "note", "(II)V"⟩, 11) := ⟨⟨by decide +kernel, by decide +kernel⟩, List.mem_of_getElem? (i := 60) (by decide +kernel), List.mem_of_getElem? (i := 269) (by decide +kernel), List.mem_of_getElem? (i := 270) (by decide +kernel)⟩
theorem lw_p8 : lw_okq (⟨"ScanMill$Places", "findOverCall", "(LScanMill$Row;)V"⟩, 11) := ⟨⟨by decide +kernel, by decide +kernel⟩, List.mem_of_getElem? (i := 60) (by decide +kernel), List.mem_of_getElem? (i := 276) (by decide +kernel), List.mem_of_getElem? (i := 277) (by decide +kernel)⟩
theorem lw_p9 : lw_okq (⟨"ScanMill$Places", "orderByFirst", "()V"⟩, 11) := ⟨⟨by decide +kernel, by decide +kernel⟩, List.mem_of_getElem? (i := 60) (by decide +kernel), List.mem_of_getElem? (i := 285) (by decide +kernel), List.mem_of_getElem? (i := 286) (by decide +kernel)⟩
theorem lw_p10 : lw_okq (⟨"ScanMill$Places", "giveRegisters", "()V"⟩, 11) := ⟨⟨by decide +kernel, by decide +kernel⟩, List.mem_of_getElem? (i := 60) (by decide +kernel), List.mem_of_getElem? (i := 293) (by decide +kernel), List.mem_of_getElem? (i := 294) (by decide +kernel)⟩
theorem lw_p11 : lw_okq (⟨"ScanMill$Places", "giveRegister", "(I)V"⟩, 11) := ⟨⟨by decide +kernel, by decide +kernel⟩, List.mem_of_getElem? (i := 60) (by decide +kernel), List.mem_of_getElem? (i := 301) (by decide +kernel), List.mem_of_getElem? (i := 302) (by decide +kernel)⟩
theorem lw_p12 : lw_okq (⟨"ScanMill$Places", "leastFree", "([III)I"⟩, 11) := ⟨⟨by decide +kernel, by decide +kernel⟩, List.mem_of_getElem? (i := 60) (by decide +kernel), List.mem_of_getElem? (i := 305) (by decide +kernel), List.mem_of_getElem? (i := 306) (by decide +kernel)⟩
theorem lw_p13 : lw_okq (⟨"ScanMill$Places", "takeRegister", "(II)V"⟩, 11) := ⟨⟨by decide +kernel, by decide +kernel⟩, List.mem_of_getElem? (i := 60) (by decide +kernel), List.mem_of_getElem? (i := 313) (by decide +kernel), List.mem_of_getElem? (i := 314) (by decide +kernel)⟩
theorem lw_p14 : lw_okq (⟨"ScanMill$Places", "registerHeldLongest", "()I"⟩, 11) := ⟨⟨by decide +kernel, by decide +kernel⟩, List.mem_of_getElem? (i := 60) (by decide +kernel), List.mem_of_getElem? (i := 317) (by decide +kernel), List.mem_of_getElem? (i := 318) (by decide +kernel)⟩
theorem lw_p15 : lw_okq (⟨"ScanMill$Places", "giveSlots", "()V"⟩, 11) := ⟨⟨by decide +kernel, by decide +kernel⟩, List.mem_of_getElem? (i := 60) (by decide +kernel), List.mem_of_getElem? (i := 321) (by decide +kernel), List.mem_of_getElem? (i := 322) (by decide +kernel)⟩
def lw_privs_1 : List (MethodName × Nat) := [(⟨"ScanMill", "forgetScan", "()V"⟩, 7), (⟨"ScanMill$Liveness", "sweep", "(LScanMill$Row;)Z"⟩, 2), (⟨"ScanMill$Row", "holds", "(I)Z"⟩, 5), (⟨"ScanMill$Liveness", "setBehind", "(LScanMill$Row;I)I"⟩, 2), (⟨"ScanMill$Liveness", "setAhead", "(I)I"⟩, 2), (⟨"ScanMill$Places", "forget", "(I)V"⟩, 11), (⟨"ScanMill$Places", "findTimes", "(LScanMill$Row;LScanMill$Liveness;)V"⟩, 11), (⟨"ScanMill$Places", "note", "(II)V"⟩, 11), (⟨"ScanMill$Places", "findOverCall", "(LScanMill$Row;)V"⟩, 11), (⟨"ScanMill$Places", "orderByFirst", "()V"⟩, 11), (⟨"ScanMill$Places", "giveRegisters", "()V"⟩, 11), (⟨"ScanMill$Places", "giveRegister", "(I)V"⟩, 11), (⟨"ScanMill$Places", "leastFree", "([III)I"⟩, 11), (⟨"ScanMill$Places", "takeRegister", "(II)V"⟩, 11), (⟨"ScanMill$Places", "registerHeldLongest", "()I"⟩, 11), (⟨"ScanMill$Places", "giveSlots", "()V"⟩, 11)]
theorem lw_r1 : ∀ q ∈ lw_privs_1, lw_okq q := List.forall_mem_cons.mpr ⟨lw_p0, List.forall_mem_cons.mpr ⟨lw_p1, List.forall_mem_cons.mpr ⟨lw_p2, List.forall_mem_cons.mpr ⟨lw_p3, List.forall_mem_cons.mpr ⟨lw_p4, List.forall_mem_cons.mpr ⟨lw_p5, List.forall_mem_cons.mpr ⟨lw_p6, List.forall_mem_cons.mpr ⟨lw_p7, List.forall_mem_cons.mpr ⟨lw_p8, List.forall_mem_cons.mpr ⟨lw_p9, List.forall_mem_cons.mpr ⟨lw_p10, List.forall_mem_cons.mpr ⟨lw_p11, List.forall_mem_cons.mpr ⟨lw_p12, List.forall_mem_cons.mpr ⟨lw_p13, List.forall_mem_cons.mpr ⟨lw_p14, List.forall_mem_cons.mpr ⟨lw_p15, fun _ h => absurd h List.not_mem_nil⟩⟩⟩⟩⟩⟩⟩⟩⟩⟩⟩⟩⟩⟩⟩⟩
theorem lw_p16 : lw_okq (⟨"ScanMill$Places", "giveSlot", "(I)V"⟩, 11) := ⟨⟨by decide +kernel, by decide +kernel⟩, List.mem_of_getElem? (i := 60) (by decide +kernel), List.mem_of_getElem? (i := 325) (by decide +kernel), List.mem_of_getElem? (i := 326) (by decide +kernel)⟩
theorem lw_p17 : lw_okq (⟨"ScanMill", "runState", "()I"⟩, 7) := ⟨⟨by decide +kernel, by decide +kernel⟩, List.mem_of_getElem? (i := 16) (by decide +kernel), List.mem_of_getElem? (i := 389) (by decide +kernel), List.mem_of_getElem? (i := 390) (by decide +kernel)⟩
theorem lw_p18 : lw_okq (⟨"java/lang/Throwable", "fillInStackTrace", "(I)Ljava/lang/Throwable;"⟩, 6) := ⟨⟨by decide +kernel, by decide +kernel⟩, List.mem_of_getElem? (i := 440) (by decide +kernel), List.mem_of_getElem? (i := 438) (by decide +kernel), List.mem_of_getElem? (i := 439) (by decide +kernel)⟩
theorem lw_p19 : lw_okq (⟨"ScanMill$Machine", "write", "(LScanMill$Places;II)V"⟩, 7) := ⟨⟨by decide +kernel, by decide +kernel⟩, List.mem_of_getElem? (i := 101) (by decide +kernel), List.mem_of_getElem? (i := 524) (by decide +kernel), List.mem_of_getElem? (i := 525) (by decide +kernel)⟩
theorem lw_p20 : lw_okq (⟨"ScanMill$Machine", "keep", "(I)V"⟩, 7) := ⟨⟨by decide +kernel, by decide +kernel⟩, List.mem_of_getElem? (i := 101) (by decide +kernel), List.mem_of_getElem? (i := 528) (by decide +kernel), List.mem_of_getElem? (i := 529) (by decide +kernel)⟩
theorem lw_p21 : lw_okq (⟨"ScanMillModel", "forget", "()V"⟩, 29) := ⟨⟨by decide +kernel, by decide +kernel⟩, List.mem_of_getElem? (i := 601) (by decide +kernel), List.mem_of_getElem? (i := 709) (by decide +kernel), List.mem_of_getElem? (i := 710) (by decide +kernel)⟩
theorem lw_p22 : lw_okq (⟨"ScanMillModel", "lives", "(II)Z"⟩, 29) := ⟨⟨by decide +kernel, by decide +kernel⟩, List.mem_of_getElem? (i := 601) (by decide +kernel), List.mem_of_getElem? (i := 725) (by decide +kernel), List.mem_of_getElem? (i := 726) (by decide +kernel)⟩
theorem lw_p23 : lw_okq (⟨"ScanMillModel", "goTo", "(I)V"⟩, 29) := ⟨⟨by decide +kernel, by decide +kernel⟩, List.mem_of_getElem? (i := 601) (by decide +kernel), List.mem_of_getElem? (i := 729) (by decide +kernel), List.mem_of_getElem? (i := 730) (by decide +kernel)⟩
theorem lw_p24 : lw_okq (⟨"ScanMillModel", "reads", "(II)Z"⟩, 29) := ⟨⟨by decide +kernel, by decide +kernel⟩, List.mem_of_getElem? (i := 601) (by decide +kernel), List.mem_of_getElem? (i := 733) (by decide +kernel), List.mem_of_getElem? (i := 734) (by decide +kernel)⟩
theorem lw_p25 : lw_okq (⟨"ScanMillModel", "sets", "(II)Z"⟩, 29) := ⟨⟨by decide +kernel, by decide +kernel⟩, List.mem_of_getElem? (i := 601) (by decide +kernel), List.mem_of_getElem? (i := 737) (by decide +kernel), List.mem_of_getElem? (i := 738) (by decide +kernel)⟩
theorem lw_p26 : lw_okq (⟨"ScanMillModel", "findTimes", "(I)V"⟩, 29) := ⟨⟨by decide +kernel, by decide +kernel⟩, List.mem_of_getElem? (i := 601) (by decide +kernel), List.mem_of_getElem? (i := 745) (by decide +kernel), List.mem_of_getElem? (i := 746) (by decide +kernel)⟩
theorem lw_p27 : lw_okq (⟨"ScanMillModel", "time", "(II)V"⟩, 29) := ⟨⟨by decide +kernel, by decide +kernel⟩, List.mem_of_getElem? (i := 601) (by decide +kernel), List.mem_of_getElem? (i := 749) (by decide +kernel), List.mem_of_getElem? (i := 750) (by decide +kernel)⟩
theorem lw_p28 : lw_okq (⟨"ScanMillModel", "startOver", "()V"⟩, 29) := ⟨⟨by decide +kernel, by decide +kernel⟩, List.mem_of_getElem? (i := 601) (by decide +kernel), List.mem_of_getElem? (i := 753) (by decide +kernel), List.mem_of_getElem? (i := 754) (by decide +kernel)⟩
theorem lw_p29 : lw_okq (⟨"ScanMillModel", "nextOne", "(Z)I"⟩, 29) := ⟨⟨by decide +kernel, by decide +kernel⟩, List.mem_of_getElem? (i := 601) (by decide +kernel), List.mem_of_getElem? (i := 757) (by decide +kernel), List.mem_of_getElem? (i := 758) (by decide +kernel)⟩
theorem lw_p30 : lw_okq (⟨"ScanMillModel", "giveRegister", "(I)V"⟩, 29) := ⟨⟨by decide +kernel, by decide +kernel⟩, List.mem_of_getElem? (i := 601) (by decide +kernel), List.mem_of_getElem? (i := 761) (by decide +kernel), List.mem_of_getElem? (i := 762) (by decide +kernel)⟩
theorem lw_p31 : lw_okq (⟨"ScanMillModel", "giveSlot", "(I)V"⟩, 29) := ⟨⟨by decide +kernel, by decide +kernel⟩, List.mem_of_getElem? (i := 601) (by decide +kernel), List.mem_of_getElem? (i := 765) (by decide +kernel), List.mem_of_getElem? (i := 766) (by decide +kernel)⟩
def lw_privs_2 : List (MethodName × Nat) := [(⟨"ScanMill$Places", "giveSlot", "(I)V"⟩, 11), (⟨"ScanMill", "runState", "()I"⟩, 7), (⟨"java/lang/Throwable", "fillInStackTrace", "(I)Ljava/lang/Throwable;"⟩, 6), (⟨"ScanMill$Machine", "write", "(LScanMill$Places;II)V"⟩, 7), (⟨"ScanMill$Machine", "keep", "(I)V"⟩, 7), (⟨"ScanMillModel", "forget", "()V"⟩, 29), (⟨"ScanMillModel", "lives", "(II)Z"⟩, 29), (⟨"ScanMillModel", "goTo", "(I)V"⟩, 29), (⟨"ScanMillModel", "reads", "(II)Z"⟩, 29), (⟨"ScanMillModel", "sets", "(II)Z"⟩, 29), (⟨"ScanMillModel", "findTimes", "(I)V"⟩, 29), (⟨"ScanMillModel", "time", "(II)V"⟩, 29), (⟨"ScanMillModel", "startOver", "()V"⟩, 29), (⟨"ScanMillModel", "nextOne", "(Z)I"⟩, 29), (⟨"ScanMillModel", "giveRegister", "(I)V"⟩, 29), (⟨"ScanMillModel", "giveSlot", "(I)V"⟩, 29)]
theorem lw_r2 : ∀ q ∈ lw_privs_2, lw_okq q := List.forall_mem_cons.mpr ⟨lw_p16, List.forall_mem_cons.mpr ⟨lw_p17, List.forall_mem_cons.mpr ⟨lw_p18, List.forall_mem_cons.mpr ⟨lw_p19, List.forall_mem_cons.mpr ⟨lw_p20, List.forall_mem_cons.mpr ⟨lw_p21, List.forall_mem_cons.mpr ⟨lw_p22, List.forall_mem_cons.mpr ⟨lw_p23, List.forall_mem_cons.mpr ⟨lw_p24, List.forall_mem_cons.mpr ⟨lw_p25, List.forall_mem_cons.mpr ⟨lw_p26, List.forall_mem_cons.mpr ⟨lw_p27, List.forall_mem_cons.mpr ⟨lw_p28, List.forall_mem_cons.mpr ⟨lw_p29, List.forall_mem_cons.mpr ⟨lw_p30, List.forall_mem_cons.mpr ⟨lw_p31, fun _ h => absurd h List.not_mem_nil⟩⟩⟩⟩⟩⟩⟩⟩⟩⟩⟩⟩⟩⟩⟩⟩
theorem lw_p32 : lw_okq (⟨"ScanMillModel", "isEnd", "()Z"⟩, 29) := ⟨⟨by decide +kernel, by decide +kernel⟩, List.mem_of_getElem? (i := 601) (by decide +kernel), List.mem_of_getElem? (i := 777) (by decide +kernel), List.mem_of_getElem? (i := 778) (by decide +kernel)⟩
theorem lw_p33 : lw_okq (⟨"ScanMillModel", "step", "()V"⟩, 29) := ⟨⟨by decide +kernel, by decide +kernel⟩, List.mem_of_getElem? (i := 601) (by decide +kernel), List.mem_of_getElem? (i := 785) (by decide +kernel), List.mem_of_getElem? (i := 786) (by decide +kernel)⟩
theorem lw_p34 : lw_okq (⟨"ScanMillModel", "get", "(I)I"⟩, 29) := ⟨⟨by decide +kernel, by decide +kernel⟩, List.mem_of_getElem? (i := 601) (by decide +kernel), List.mem_of_getElem? (i := 789) (by decide +kernel), List.mem_of_getElem? (i := 790) (by decide +kernel)⟩
theorem lw_p35 : lw_okq (⟨"ScanMillModel", "set", "(II)V"⟩, 29) := ⟨⟨by decide +kernel, by decide +kernel⟩, List.mem_of_getElem? (i := 601) (by decide +kernel), List.mem_of_getElem? (i := 793) (by decide +kernel), List.mem_of_getElem? (i := 794) (by decide +kernel)⟩
def lw_privs_3 : List (MethodName × Nat) := [(⟨"ScanMillModel", "isEnd", "()Z"⟩, 29), (⟨"ScanMillModel", "step", "()V"⟩, 29), (⟨"ScanMillModel", "get", "(I)I"⟩, 29), (⟨"ScanMillModel", "set", "(II)V"⟩, 29)]
theorem lw_r3 : ∀ q ∈ lw_privs_3, lw_okq q := List.forall_mem_cons.mpr ⟨lw_p32, List.forall_mem_cons.mpr ⟨lw_p33, List.forall_mem_cons.mpr ⟨lw_p34, List.forall_mem_cons.mpr ⟨lw_p35, fun _ h => absurd h List.not_mem_nil⟩⟩⟩⟩
def lw_privs : List (MethodName × Nat) := lw_privs_1 ++ (lw_privs_2 ++ (lw_privs_3))
def lw_tbl : List Cond := k2_sels lw_privs ++ tables_1
theorem lw_privs_ok : ∀ q ∈ lw_privs, lw_okq q := by
  show ∀ q ∈ lw_privs_1 ++ (lw_privs_2 ++ (lw_privs_3)), lw_okq q
  exact List.forall_mem_append.mpr ⟨lw_r1, List.forall_mem_append.mpr ⟨lw_r2, lw_r3⟩⟩
-- ===== end of PART A; then your names; then what follows =====
end
section
/-! My own base: contracts over worlds as lists (a method that makes no cells), one row for entry, return, call. -/
/-- the words that stay, of all tables -/
def wG : List Cond := lw_tbl.filter goodWord
theorem wG_t {w : Cond} (i : Nat) (h : tables_1[i]? = some w) (g : goodWord w = true) : w ∈ wG := List.mem_filter.mpr ⟨List.mem_append_right _ (List.mem_of_getElem? h), g⟩
theorem wG_p {w : Cond} (i : Nat) (h : (k2_sels lw_privs)[i]? = some w) (g : goodWord w = true) : w ∈ wG := List.mem_filter.mpr ⟨List.mem_append_left _ (List.mem_of_getElem? h), g⟩
theorem wG_good {w : Cond} (h : w ∈ wG) : (w.onTables && w.keeps) = true ∨ ∃ ty, w = .arrayClass ty := good_of_word (List.mem_filter.mp h).2
theorem wG_GoodIn {w : Cond} (h : w ∈ wG) : GoodIn wG (w :: wG) := fun v hv => (List.mem_cons.mp hv).elim (fun e => by rw [e]; exact ⟨h, wG_good h⟩) (fun e => ⟨e, wG_good e⟩)
/-- the nest mates' links -/
def sm_N (U : State) : Prop := va_Nw (.methodLinkNest "ScanMill$Row" 40 ⟨"ScanMill", "isValue", "(I)Z"⟩ "ScanMill") U ∧ va_Nw (.methodLinkNest "ScanMill$Row" 43 ⟨"ScanMill", "isTarget", "(I)Z"⟩ "ScanMill") U ∧ va_Nw (.methodLinkNest "ScanMill$Liveness" 67 ⟨"ScanMill", "isValue", "(I)Z"⟩ "ScanMill") U ∧ va_Nw (.methodLinkNest "ScanMill$Places" 68 ⟨"ScanMill", "isValue", "(I)Z"⟩ "ScanMill") U
theorem sm_N.same {u U : State} (h : u.vm = U.vm) (hN : sm_N u) : sm_N U := ⟨hN.1.same rfl h, hN.2.1.same rfl h, hN.2.2.1.same rfl h, hN.2.2.2.same rfl h⟩
theorem sm_N.warm {s U : State} (hW : s.WarmedH U.vm) (hN : sm_N s) : sm_N U := ⟨va_Nw.warmM hW hN.1, va_Nw.warmM hW hN.2.1, va_Nw.warmM hW hN.2.2.1, va_Nw.warmM hW hN.2.2.2⟩
abbrev rmF (f lo : Nat) : Room := { frames := f, cells := 0, slots := 0, locals := lo }
abbrev sm_Pc (D : va_G) (cl : List vw_C) (tys : List (ClassId × FieldType)) (av : List Value) (ws : va_W) (sz : Nat) : Array Value → State → Prop :=
  va_Pc av (fun U => U.heap.size = sz ∧ va_P D cl ws U.heap ∧ va_K D cl tys U ∧ va_D (fun _ => True) ws ∧ sm_N U)
abbrev sm_B (D : va_G) (cl : List vw_C) (tys : List (ClassId × FieldType)) (A : Nat → Prop) (u : va_W) (t : State) : Prop := va_P D cl u t.heap ∧ va_K D cl tys t ∧ va_D A u
def sm_I (l : Launch) (y : MethodName) (cc : ByteArray) (maxL : Nat) (ret : Option FieldType) (rm : Room) (D : va_G) (cl : List vw_C) (tys : List (ClassId × FieldType)) (av : List Value) (ws : va_W) (post : Int32 → va_W → Prop) : Prop :=
  ∀ sz : Nat, Met l y (.code y cc maxL ret :: wG) rm (sm_Pc D cl tys av ws sz) (va_Qi post (sm_B D cl tys (va_A ws sz)) (va_A ws sz)) 0 0 (va_A ws sz)
def sm_V (l : Launch) (y : MethodName) (cc : ByteArray) (maxL : Nat) (ret : Option FieldType) (rm : Room) (D : va_G) (cl : List vw_C) (tys : List (ClassId × FieldType)) (av : List Value) (ws : va_W) (post : va_W → Prop) : Prop :=
  ∀ sz : Nat, Met l y (.code y cc maxL ret :: wG) rm (sm_Pc D cl tys av ws sz) (va_Qv post (sm_B D cl tys (va_A ws sz)) (va_A ws sz)) 0 0 (va_A ws sz)
theorem sm_I.at {l : Launch} {y : MethodName} {cc : ByteArray} {maxL : Nat} {ret : Option FieldType} {rm : Room} {D : va_G} {cl : List vw_C} {tys : List (ClassId × FieldType)} {av : List Value} {ws : va_W} {post : Int32 → va_W → Prop} (h : sm_I l y cc maxL ret rm D cl tys av ws post) (sz : Nat) : Met l y (.code y cc maxL ret :: wG) rm (sm_Pc D cl tys av ws sz) (va_Qi post (sm_B D cl tys (va_A ws sz)) (va_A ws sz)) 0 0 (va_A ws sz) := h sz
theorem sm_I.mk {l : Launch} {y : MethodName} {rm : Room} {D : va_G} {cl : List vw_C} {tys : List (ClassId × FieldType)} {av : List Value} {ws : va_W} {post : Int32 → va_W → Prop} {cc : ByteArray} {maxL : Nat} {ret : Option FieldType}
    (hy : plainName y.cls = true) (hlen : (lg_sl av).length ≤ maxL)
    (body : ∀ (p : Program) (e : Env) (s : State) (m : MethodId) (below : List Frame) (meth : Method) (c : Code) (A : Nat → Prop) (H : Heap) (locs : List Loc) (ls : Array Slot), p.tables.exec = Jvm.exec → c.code = cc → meth.sig.returnType = ret → (∀ x ∈ wG, x.before av.toArray s = true) → s.vm.findClass y.cls = some m.cls → meth.locks = false → c.maxLocals = maxL → meth.name = y.name → va_P D cl ws H → va_K D cl tys s → va_D A ws → (∀ q, s.heap.size ≤ q → A q) → va_S A s.heap H locs → sm_N s → lv_has ls maxL (lv_args 0 av) → W p l e rm s m av.toArray below meth c H locs 0 0 (MQ below (va_Qi post (sm_B D cl tys A) A) av.toArray s 0 0 A) (F0 m 0 ls [])) : sm_I l y cc maxL ret rm D cl tys av ws post := by
  intro sz
  refine Met.ofW (cc := cc) (maxL := maxL) (ret := ret) hy rfl ?_
  intro p e s m args below meth c s₁ B hml hv
  obtain ⟨rfl, hsz, hP, hK, hD0, hN⟩ := hv
  subst hsz
  have hl := lv_entry av (n := maxL) hlen
  rw [lg_entry_eq]
  exact body p e s m below meth c (va_A ws s.heap.size) s.heap [] _ B.exec B.bytes B.returns (fun x hx => atoms_spec (ws := .code y cc maxL ret :: wG) B.pre x (List.mem_cons_of_mem _ hx)) (findClass_of_methodNamed B.named) B.notSynchronized hml (name_of_methodNamed B.named B.method).1 hP hK (hD0.self (sz := s.heap.size)) (fun q h => Or.inr h) va_S.rf hN hl
theorem sm_V.at {l : Launch} {y : MethodName} {cc : ByteArray} {maxL : Nat} {ret : Option FieldType} {rm : Room} {D : va_G} {cl : List vw_C} {tys : List (ClassId × FieldType)} {av : List Value} {ws : va_W} {post : va_W → Prop} (h : sm_V l y cc maxL ret rm D cl tys av ws post) (sz : Nat) : Met l y (.code y cc maxL ret :: wG) rm (sm_Pc D cl tys av ws sz) (va_Qv post (sm_B D cl tys (va_A ws sz)) (va_A ws sz)) 0 0 (va_A ws sz) := h sz
theorem sm_V.mk {l : Launch} {y : MethodName} {rm : Room} {D : va_G} {cl : List vw_C} {tys : List (ClassId × FieldType)} {av : List Value} {ws : va_W} {post : va_W → Prop} {cc : ByteArray} {maxL : Nat} {ret : Option FieldType}
    (hy : plainName y.cls = true) (hlen : (lg_sl av).length ≤ maxL)
    (body : ∀ (p : Program) (e : Env) (s : State) (m : MethodId) (below : List Frame) (meth : Method) (c : Code) (A : Nat → Prop) (H : Heap) (locs : List Loc) (ls : Array Slot), p.tables.exec = Jvm.exec → c.code = cc → meth.sig.returnType = ret → (∀ x ∈ wG, x.before av.toArray s = true) → s.vm.findClass y.cls = some m.cls → meth.locks = false → c.maxLocals = maxL → meth.name = y.name → va_P D cl ws H → va_K D cl tys s → va_D A ws → (∀ q, s.heap.size ≤ q → A q) → va_S A s.heap H locs → sm_N s → lv_has ls maxL (lv_args 0 av) → W p l e rm s m av.toArray below meth c H locs 0 0 (MQ below (va_Qv post (sm_B D cl tys A) A) av.toArray s 0 0 A) (F0 m 0 ls [])) : sm_V l y cc maxL ret rm D cl tys av ws post := by
  intro sz
  refine Met.ofW (cc := cc) (maxL := maxL) (ret := ret) hy rfl ?_
  intro p e s m args below meth c s₁ B hml hv
  obtain ⟨rfl, hsz, hP, hK, hD0, hN⟩ := hv
  subst hsz
  have hl := lv_entry av (n := maxL) hlen
  rw [lg_entry_eq]
  exact body p e s m below meth c (va_A ws s.heap.size) s.heap [] _ B.exec B.bytes B.returns (fun x hx => atoms_spec (ws := .code y cc maxL ret :: wG) B.pre x (List.mem_cons_of_mem _ hx)) (findClass_of_methodNamed B.named) B.notSynchronized hml (name_of_methodNamed B.named B.method).1 hP hK (hD0.self (sz := s.heap.size)) (fun q h => Or.inr h) va_S.rf hN hl
theorem sm_blind {D : va_G} {cl : List vw_C} {tys : List (ClassId × FieldType)} {av : List Value} {ws : va_W} {sz : Nat} : FrameBlind (sm_Pc D cl tys av ws sz) := fun a U g mk q => by
  obtain ⟨q0, q1, qP, qK, qD, qN⟩ := q
  exact ⟨q0, q1, qP, va_K.moved (u := U) (U := U.calling g mk a) (Vm.Alike.refl U.vm) qK, qD, qN.same (u := U) (U := U.calling g mk a) rfl⟩
theorem sm_preS {s : State} {H : Heap} {D : va_G} {cl : List vw_C} {tys : List (ClassId × FieldType)} {A : Nat → Prop} {av : List Value} {ws wc : va_W} (hN : sm_N s) (hK : va_K D cl tys s) (hP : va_P D cl ws H) (hD : va_D A ws) (isC : List Nat) (hf : isC.filterMap (fun i => ws[i]?) = wc) (hC : isC.map (fun i => ws[i]?) = wc.map some) (hn : va_nd isC = true) : PreS s H (sm_Pc D cl tys av wc H.size) av :=
  ⟨sm_blind, fun U hU hW => ⟨rfl, by rw [hU], by rw [hU]; exact hP.sub isC hf, va_K.moved hW.alike hK, (hD.sub isC hn hC).weaken (fun _ _ _ _ => trivial), hN.warm hW⟩⟩
theorem sm_preV {s : State} {H : Heap} {D : va_G} {cl : List vw_C} {tys : List (ClassId × FieldType)} {A : Nat → Prop} {As : List Value} {ws wc : va_W} {b ci : Nat} {q : vw_C} {fs : List Value} (hN : sm_N s) (hK : va_K D cl tys s) (hP : va_P D cl ws H) (hD : va_D A ws) (isC : List Nat) (hf : isC.filterMap (fun i => ws[i]?) = wc) (hC : isC.map (fun i => ws[i]?) = wc.map some) (hn : va_nd isC = true) (q0 : Nat) (hc : cl[ci]? = some q) (he : ws[q0]? = some (b, .inr (ci, fs))) : PreV s H q.1 b (sm_Pc D cl tys (.ref b :: As) wc H.size) As :=
  ⟨sm_blind, va_recv hK hP hc he, fun U hU hW => ⟨rfl, by rw [hU], by rw [hU]; exact hP.sub isC hf, va_K.moved hW.alike hK, (hD.sub isC hn hC).weaken (fun _ _ _ _ => trivial), hN.warm hW⟩⟩
theorem sm_cB {R : Room} {s : State} {args : Array Value} {own : String} {index maxL : Nat} {y : MethodName} {bytes : ByteArray} {ret : Option FieldType} {rm : Room} (n : Nat) (ht : ∀ w ∈ wG, w.before args s = true) (hc : Cond.code y bytes maxL ret ∈ wG) (hini : Cond.initialized y.cls ∈ wG) (hl : Cond.methodLink own index y ∈ wG) (hrc : rm.cells = 0) (hrs : rm.slots = 0)
    (hd : y.cls ≠ "java/lang/invoke/MethodHandle" ∧ y.cls ≠ "java/lang/invoke/VarHandle" ∧ (parseMethodDescriptor y.desc).map (fun d => d.parameters.length) = some n) (hR : rm.frames + 1 ≤ R.frames ∧ 8 + (maxL + 11) + rm.locals ≤ R.locals) : CallB R s args own index y bytes maxL ret (.code y bytes maxL ret :: wG) rm 0 0 n :=
  callB_of n ht (wG_GoodIn hc) rfl hrc hrs (ht _ hini) (ht _ hl) hd hR
theorem sm_cV {R : Room} {s : State} {args : Array Value} {own C : String} {index maxL : Nat} {y : MethodName} {bytes : ByteArray} {ret : Option FieldType} {rm : Room} (n : Nat) (ht : ∀ w ∈ wG, w.before args s = true) (hc : Cond.code y bytes maxL ret ∈ wG) (hini : Cond.initialized y.cls ∈ wG) (hl : Cond.methodLink own index y ∈ wG) (hin : Cond.instanceMethod y ∈ wG) (hse : Cond.selects C y y ∈ wG) (hrc : rm.cells = 0) (hrs : rm.slots = 0)
    (hd : y.cls ≠ "java/lang/invoke/MethodHandle" ∧ y.cls ≠ "java/lang/invoke/VarHandle" ∧ (parseMethodDescriptor y.desc).map (fun d => d.parameters.length) = some n) (hR : rm.frames + 1 ≤ R.frames ∧ 8 + (maxL + 11) + rm.locals ≤ R.locals) : CallW R s args own C index y bytes maxL ret (.code y bytes maxL ret :: wG) rm 0 0 n :=
  ⟨sm_cB n ht hc hini hl hrc hrs hd hR, ht _ hin, ht _ hse⟩
theorem sm_cS {R : Room} {s : State} {args : Array Value} {own : String} {index maxL : Nat} {y : MethodName} {bytes : ByteArray} {ret : Option FieldType} {rm : Room} (n : Nat) (ht : ∀ w ∈ wG, w.before args s = true) (hc : Cond.code y bytes maxL ret ∈ wG) (hini : Cond.initialized y.cls ∈ wG) (hl : Cond.methodLink own index y ∈ wG) (hst : Cond.static y ∈ wG) (hrc : rm.cells = 0) (hrs : rm.slots = 0)
    (hd : y.cls ≠ "java/lang/invoke/MethodHandle" ∧ y.cls ≠ "java/lang/invoke/VarHandle" ∧ (parseMethodDescriptor y.desc).map (fun d => d.parameters.length) = some n) (hR : rm.frames + 1 ≤ R.frames ∧ 8 + (maxL + 11) + rm.locals ≤ R.locals) : CallB R s args own index y bytes maxL ret (.code y bytes maxL ret :: wG) rm 0 0 n ∧ (Cond.static y).before args s = true :=
  ⟨sm_cB n ht hc hini hl hrc hrs hd hR, ht _ hst⟩
theorem sm_cN {R : Room} {s : State} {args : Array Value} {own host : String} {index maxL : Nat} {y : MethodName} {bytes : ByteArray} {ret : Option FieldType} {rm : Room} (n : Nat) (ht : ∀ w ∈ wG, w.before args s = true) (hc : Cond.code y bytes maxL ret ∈ wG) (hini : Cond.initialized y.cls ∈ wG) (hl : va_Nw (.methodLinkNest own index y host) s) (hst : Cond.static y ∈ wG) (hrc : rm.cells = 0) (hrs : rm.slots = 0)
    (hd : y.cls ≠ "java/lang/invoke/MethodHandle" ∧ y.cls ≠ "java/lang/invoke/VarHandle" ∧ (parseMethodDescriptor y.desc).map (fun d => d.parameters.length) = some n) (hR : rm.frames + 1 ≤ R.frames ∧ 8 + (maxL + 11) + rm.locals ≤ R.locals) : va_CN R s args own index y host bytes maxL ret (.code y bytes maxL ret :: wG) rm 0 0 n ∧ (Cond.static y).before args s = true ∧ True :=
  ⟨va_cnB n ht (wG_GoodIn hc) rfl hrc hrs hl (ht _ hini) hd hR, ht _ hst, trivial⟩
section SMB
variable {p : Program} {l : Launch} {e : Env} {R : Room} {s : State} {m : MethodId} {args : Array Value} {below : List Frame} {meth : Method} {c : Code} {H : Heap} {locs : List Loc} {cells slots : Nat} {Q : State → Prop}
variable {cc : ByteArray} {pc : Nat} {ls : Array Slot} {rest st0 : List Value} {D : va_G} {cl : List vw_C} {A : Nat → Prop} {a : Nat} {tys : List (ClassId × FieldType)} {ws wc wr : va_W} {H0 : Heap} {av : Array Value}
theorem sm_re {x y : Int32} (h : x = y) (k : W p l e R s m args below meth c H locs cells slots Q (F0 m pc ls (.int y :: rest))) : W p l e R s m args below meth c H locs cells slots Q (F0 m pc ls (.int x :: rest)) := by rw [h]; exact k
theorem sm_goi {post : Int32 → va_W → Prop} (hr : va_Run p l e R s m args below meth c H locs cells slots 0 0 (F0 m pc ls st0) rest (va_Qi post (sm_B D cl tys (va_A wc H.size)) (va_A wc H.size) av) (va_A wc H.size)) (hP : va_P D cl ws H) (hD : va_D A ws) (hS : va_S A s.heap H locs) (hA : ∀ q, s.heap.size ≤ q → A q) (isC isR : List Nat) (hC : isC.map (fun i => ws[i]?) = wc.map some) (hR : isR.map (fun i => ws[i]?) = wr.map some) (hn : va_nd isR = true) (hdis : ∀ i ∈ isR, i ∉ isC)
    (kk : ∀ (r : Int32) (w1 : va_W) (H1 : Heap) (locs1 : List Loc), post r w1 → va_P D cl (wr ++ w1) H1 → va_D A (wr ++ w1) → va_S A s.heap H1 locs1 → W p l e R s m args below meth c H1 locs1 cells slots Q (F0 m (pc + 3) ls (.int r :: rest))) : W p l e R s m args below meth c H locs cells slots Q (F0 m pc ls st0) := by
  have hFc := va_free (wc := wc) hD hS hA isC hC
  refine va_calli hr hS (fun q _ h => hFc q h) hFc (fun r u t H1 locs1 ht hvm hw hB hz1 hk1 hS1 => ?_)
  obtain ⟨hP1, hK1, hD1⟩ := hB
  rw [ht] at hP1
  obtain ⟨hP2, hD2⟩ := va_join (wr := wr) (w1 := u) hP hD isC isR hC hR hn hdis hk1 hFc hP1 hD1
  exact kk r u H1 locs1 hw hP2 hD2 hS1
theorem sm_gov {post : va_W → Prop} (hr : va_Run p l e R s m args below meth c H locs cells slots 0 0 (F0 m pc ls st0) rest (va_Qv post (sm_B D cl tys (va_A wc H.size)) (va_A wc H.size) av) (va_A wc H.size)) (hP : va_P D cl ws H) (hD : va_D A ws) (hS : va_S A s.heap H locs) (hA : ∀ q, s.heap.size ≤ q → A q) (isC isR : List Nat) (hC : isC.map (fun i => ws[i]?) = wc.map some) (hR : isR.map (fun i => ws[i]?) = wr.map some) (hn : va_nd isR = true) (hdis : ∀ i ∈ isR, i ∉ isC)
    (kk : ∀ (w1 : va_W) (H1 : Heap) (locs1 : List Loc), post w1 → va_P D cl (wr ++ w1) H1 → va_D A (wr ++ w1) → va_S A s.heap H1 locs1 → W p l e R s m args below meth c H1 locs1 cells slots Q (F0 m (pc + 3) ls rest)) : W p l e R s m args below meth c H locs cells slots Q (F0 m pc ls st0) := by
  have hFc := va_free (wc := wc) hD hS hA isC hC
  refine va_callv hr hS (fun q _ h => hFc q h) hFc (fun u t H1 locs1 ht hvm hw hB hz1 hk1 hS1 => ?_)
  obtain ⟨hP1, hK1, hD1⟩ := hB
  rw [ht] at hP1
  obtain ⟨hP2, hD2⟩ := va_join (wr := wr) (w1 := u) hP hD isC isR hC hR hn hdis hk1 hFc hP1 hD1
  exact kk u H1 locs1 hw hP2 hD2 hS1
theorem sm_ri {post : Int32 → va_W → Prop} {v : Int32} (hexec : p.tables.exec = Jvm.exec) (hb : c.code = cc) (hr : meth.sig.returnType = some .int) (hlocks : meth.locks = false) (hK : va_K D cl tys s) (hP : va_P D cl ws H) (hD : va_D A ws) (hS : va_S A s.heap H locs) (hpost : post v ws) (hdg : decode cc pc = .ok (.ireturn, 1)) :
    W p l e R s m args below meth c H locs 0 0 (MQ below (va_Qi post (sm_B D cl tys A) A) args s 0 0 A) (F0 m pc ls [.int v]) :=
  W.iret hexec hb hr (fun t ht hW => ⟨⟨v, ws, rfl, hpost, by rw [ht]; exact hP, va_K.moved hW.alike hK, hD⟩, hS.F ht⟩) hS.2.2 hdg (hlocks := hlocks)
theorem sm_rz {post : Int32 → va_W → Prop} {v : Int32} (hexec : p.tables.exec = Jvm.exec) (hb : c.code = cc) (hr : meth.sig.returnType = some .boolean) (hlocks : meth.locks = false) (hK : va_K D cl tys s) (hP : va_P D cl ws H) (hD : va_D A ws) (hS : va_S A s.heap H locs) (h01 : v = 0 ∨ v = 1) (hpost : post v ws) (hdg : decode cc pc = .ok (.ireturn, 1)) :
    W p l e R s m args below meth c H locs 0 0 (MQ below (va_Qi post (sm_B D cl tys A) A) args s 0 0 A) (F0 m pc ls [.int v]) :=
  W.zret (ty := .boolean) hexec hb hr (by rcases h01 with h | h <;> subst h <;> rfl) (fun t ht hW => ⟨⟨v, ws, rfl, hpost, by rw [ht]; exact hP, va_K.moved hW.alike hK, hD⟩, hS.F ht⟩) hS.2.2 hdg (hlocks := hlocks)
theorem sm_rv {post : va_W → Prop} (hexec : p.tables.exec = Jvm.exec) (hb : c.code = cc) (hr : meth.sig.returnType = none) (hlocks : meth.locks = false) (hK : va_K D cl tys s) (hP : va_P D cl ws H) (hD : va_D A ws) (hS : va_S A s.heap H locs) (hpost : post ws) (hdg : decode cc pc = .ok (.return_, 1)) :
    W p l e R s m args below meth c H locs 0 0 (MQ below (va_Qv post (sm_B D cl tys A) A) args s 0 0 A) (F0 m pc ls []) :=
  W.vret hexec hb hr (fun t ht hW => ⟨⟨ws, rfl, hpost, by rw [ht]; exact hP, va_K.moved hW.alike hK, hD⟩, hS.F ht⟩) hS.2.2 hdg (hlocks := hlocks)
theorem sm_iald (hexec : p.tables.exec = Jvm.exec) (hb : c.code = cc) (hK : va_K D cl tys s) (hP : va_P D cl ws H) (q0 t0 : Nat) {cA : ClassId} {n : Nat} {f : Nat → Int32} (ha : ws[q0]? = some (a, .inl (cA, n, .inl f))) (ht : tys[t0]? = some (cA, .int)) {i : Int32} {j : Nat} (hin : vp_in i n) (hj : i.toNatClampNeg = j) (hdg : decode cc pc = .ok (.iaload, 1))
    (kk : W p l e R s m args below meth c H locs cells slots Q (F0 m (pc + 1) ls (.int (f j) :: rest))) : W p l e R s m args below meth c H locs cells slots Q (F0 m pc ls (.int i :: .ref a :: rest)) :=
  va_iald hexec hb hK hP q0 t0 ha ht hin hdg (by rw [hj]; exact kk)
theorem sm_zald (hexec : p.tables.exec = Jvm.exec) (hb : c.code = cc) (hK : va_K D cl tys s) (hP : va_P D cl ws H) (q0 t0 : Nat) {cA : ClassId} {n : Nat} {f : Nat → Int32} (ha : ws[q0]? = some (a, .inl (cA, n, .inl f))) (ht : tys[t0]? = some (cA, .boolean)) {i : Int32} {j : Nat} (hin : vp_in i n) (hj : i.toNatClampNeg = j) (hdg : decode cc pc = .ok (.baload, 1))
    (kk : W p l e R s m args below meth c H locs cells slots Q (F0 m (pc + 1) ls (.int (f j) :: rest))) : W p l e R s m args below meth c H locs cells slots Q (F0 m pc ls (.int i :: .ref a :: rest)) :=
  va_zald hexec hb hK hP q0 t0 ha ht hin hdg (by rw [hj]; exact kk)
theorem sm_iast (hexec : p.tables.exec = Jvm.exec) (hb : c.code = cc) (hK : va_K D cl tys s) (hP : va_P D cl ws H) (hD : va_D A ws) (hS : va_S A H0 H locs) (q0 t0 : Nat) {cA : ClassId} {n : Nat} {f : Nat → Int32} (ha : ws[q0]? = some (a, .inl (cA, n, .inl f))) (ht : tys[t0]? = some (cA, .int)) {i x : Int32} {j : Nat} (hin : vp_in i n) (hj : i.toNatClampNeg = j) (hdg : decode cc pc = .ok (.iastore, 1))
    (kk : ∀ (H1 : Heap) (locs1 : List Loc), va_P D cl (ws.set q0 (a, .inl (cA, n, .inl (upd f j x)))) H1 → va_D A (ws.set q0 (a, .inl (cA, n, .inl (upd f j x)))) → va_S A H0 H1 locs1 → W p l e R s m args below meth c H1 locs1 cells slots Q (F0 m (pc + 1) ls rest)) : W p l e R s m args below meth c H locs cells slots Q (F0 m pc ls (.int x :: .int i :: .ref a :: rest)) :=
  va_iast hexec hb hK hP hD hS q0 t0 ha ht hin hdg (by rw [hj]; exact kk)
theorem sm_nz {x : Int32} (h : x = 0 ∨ x = 1) : vp_nar .boolean x = x := by
  rcases h with h | h <;> subst h <;> decide
theorem sm_zast (hexec : p.tables.exec = Jvm.exec) (hb : c.code = cc) (hK : va_K D cl tys s) (hP : va_P D cl ws H) (hD : va_D A ws) (hS : va_S A H0 H locs) (q0 t0 : Nat) {cA : ClassId} {n : Nat} {f : Nat → Int32} (ha : ws[q0]? = some (a, .inl (cA, n, .inl f))) (ht : tys[t0]? = some (cA, .boolean)) {i x : Int32} {j : Nat} (hin : vp_in i n) (hj : i.toNatClampNeg = j) (h01 : x = 0 ∨ x = 1) (hdg : decode cc pc = .ok (.bastore, 1))
    (kk : ∀ (H1 : Heap) (locs1 : List Loc), va_P D cl (ws.set q0 (a, .inl (cA, n, .inl (upd f j x)))) H1 → va_D A (ws.set q0 (a, .inl (cA, n, .inl (upd f j x)))) → va_S A H0 H1 locs1 → W p l e R s m args below meth c H1 locs1 cells slots Q (F0 m (pc + 1) ls rest)) : W p l e R s m args below meth c H locs cells slots Q (F0 m pc ls (.int x :: .int i :: .ref a :: rest)) :=
  va_zast hexec hb hK hP hD hS q0 t0 ha ht hin hdg (by rw [hj, sm_nz h01]; exact kk)
/-- where a tableswitch goes -/
def sm_tabT (pc : Nat) (dflt lo hi : Int) (offs : Array Int) (x : Int32) : Option Int := if x.toInt < lo ∨ hi < x.toInt then some ((pc : Int) + dflt) else (offs[(x.toInt - lo).toNat]?).map (fun o => (pc : Int) + o)
theorem sm_tab (hexec : p.tables.exec = Jvm.exec) (hb : c.code = cc) {dflt lo hi : Int} {offs : Array Int} {len : Nat} {x : Int32} {tgt : Nat} (hdg : decode cc pc = .ok (.tableswitch dflt lo hi offs, len)) (h : sm_tabT pc dflt lo hi offs x = some (tgt : Int))
    (k : W p l e R s m args below meth c H locs cells slots Q (F0 m tgt ls rest)) : W p l e R s m args below meth c H locs cells slots Q (F0 m pc ls (.int x :: rest)) := by
  unfold sm_tabT at h
  by_cases g : x.toInt < lo ∨ hi < x.toInt
  · rw [if_pos g] at h
    exact lv_tableOut hexec hb hdg g (Option.some.inj h) k
  · rw [if_neg g] at h
    cases ho : offs[(x.toInt - lo).toNat]? with
    | none => rw [ho] at h; cases h
    | some o =>
      rw [ho] at h
      exact lv_tableIn hexec hb hdg (fun z => g (Or.inl z)) (fun z => g (Or.inr z)) ho (Option.some.inj h) k
end SMB
def sm_nk (x : Int32) : List Int32 → Prop
  | [] => True
  | k :: ks => x ≠ k ∧ sm_nk x ks
theorem sm_nk_mem {x : Int32} : ∀ {ks : List Int32}, sm_nk x ks → ∀ k ∈ ks, x ≠ k
  | [], _, _, h => by cases h
  | k :: ks, h, k', h' => by
    rcases List.mem_cons.mp h' with e | e
    · rw [e]; exact h.1
    · exact sm_nk_mem h.2 k' e
theorem sm_tabD {pc : Nat} {dflt lo hi : Int} {offs : Array Int} {x : Int32} {tgt : Nat} (keys : List Int32) (hx : sm_nk x keys) (hall : ∀ i ∈ List.range (hi - lo + 1).toNat, (lo + (i : Int)) ∈ keys.map (fun k => k.toInt) ∨ offs[i]? = some dflt) (ht : (pc : Int) + dflt = (tgt : Int)) : sm_tabT pc dflt lo hi offs x = some (tgt : Int) := by
  unfold sm_tabT
  by_cases g : x.toInt < lo ∨ hi < x.toInt
  · rw [if_pos g, ht]
  · rw [if_neg g]
    have g1 : ¬ x.toInt < lo := fun z => g (Or.inl z)
    have g2 : ¬ hi < x.toInt := fun z => g (Or.inr z)
    rcases hall (x.toInt - lo).toNat (List.mem_range.mpr (by omega)) with q | q
    · obtain ⟨k, hk, e⟩ := List.mem_map.mp q
      have e2 : k.toInt = x.toInt := by
        have : ((x.toInt - lo).toNat : Int) = x.toInt - lo := Int.toNat_of_nonneg (by omega)
        rw [e, this]; omega
      exact absurd (Int32.toInt_inj.mp e2).symm (sm_nk_mem hx k hk)
    · rw [q]; simp only [Option.map_some, ht]
/-- a Bool as the machine has it -/
def b2i (b : Bool) : Int32 := if b then 1 else 0
theorem b2i_01 (b : Bool) : b2i b = 0 ∨ b2i b = 1 := by cases b <;> decide
theorem b2i_t : b2i true = 1 := rfl
theorem b2i_f : b2i false = 0 := rfl
theorem b2i_eq0 {b : Bool} (h : b2i b = 0) : b = false := by cases b <;> first | rfl | exact absurd h (by decide)
theorem b2i_ne0 {b : Bool} (h : ¬ b2i b = 0) : b = true := by cases b <;> first | rfl | exact absurd rfl h
/-- in range, as a Bool -/
def inB (x : Int32) (n : Nat) : Bool := decide (0 ≤ x.toInt ∧ x.toInt < (n : Int))
theorem sm_inB {x : Int32} {n : Nat} (h : inB x n = true) : vp_in x n := vp_in_iff.mpr (of_decide_eq_true h)
theorem inB_of {x : Int32} {n : Nat} (h : vp_in x n) : inB x n = true := decide_eq_true (vp_in_iff.mp h)
theorem inB_mono {x : Int32} {n k : Nat} (h : inB x n = true) (hk : n ≤ k) : inB x k = true := by
  have := of_decide_eq_true h
  exact decide_eq_true (by omega)
theorem inB_nI {i n : Nat} (hi : i < 2 ^ 31) : inB (nI i) n = decide (i < n) := by
  unfold inB; rw [nI_toInt hi]; congr 1; simp only [eq_iff_iff]; omega
theorem inB_j {x : Int32} {n : Nat} (h : inB x n = true) (hn : n ≤ 1000) : ∃ j, j < n ∧ x = nI j := vp_in_of (sm_inB h) (by omega)
theorem in_ge {v M : Int32} {n : Nat} (hM : M.toInt = (n : Int)) (h0 : ¬ v < 0) (h1 : ¬ M ≤ v) : inB v n = true := by
  rw [Int32.lt_iff_toInt_lt, Int32.toInt_zero] at h0
  rw [Int32.le_iff_toInt_le] at h1
  exact decide_eq_true (by omega)
theorem in_lo {v : Int32} {n : Nat} (h : v < 0) : inB v n = false := by
  rw [Int32.lt_iff_toInt_lt, Int32.toInt_zero] at h
  exact decide_eq_false (by omega)
theorem in_hi {v M : Int32} {n : Nat} (hM : M.toInt = (n : Int)) (h : M ≤ v) : inB v n = false := by
  rw [Int32.le_iff_toInt_le] at h
  exact decide_eq_false (by omega)
theorem in_gt {v M : Int32} {n : Nat} (hM : M.toInt + 1 = (n : Int)) (h0 : ¬ v < 0) (h1 : ¬ M < v) : inB v n = true := by
  rw [Int32.lt_iff_toInt_lt, Int32.toInt_zero] at h0
  rw [Int32.lt_iff_toInt_lt] at h1
  exact decide_eq_true (by omega)
theorem in_hg {v M : Int32} {n : Nat} (hM : M.toInt + 1 = (n : Int)) (h : M < v) : inB v n = false := by
  rw [Int32.lt_iff_toInt_lt] at h
  exact decide_eq_false (by omega)
theorem sm_dec (x : Int32) : x + Int32.ofInt (-1) = x - 1 := by
  rw [Int32.sub_eq_add_neg]; rfl
theorem sm_pred {j : Nat} (h : ¬ nI j - 1 < 0) : ∃ i, j = i + 1 := by
  cases j with
  | zero => exact absurd (by decide) h
  | succ i => exact ⟨i, rfl⟩
theorem sm_pred0 {j : Nat} (hj : j < 2 ^ 31) (h : nI j - 1 < 0) : j = 0 := by
  cases j with
  | zero => rfl
  | succ i => rw [nI_pred] at h; exact absurd h (nI_pos (by omega))
theorem sm_nb {x : Int32} (h : x = 0 ∨ x = 1) : narrow .boolean (.int x) = .int x := by rcases h with h | h <;> subst h <;> rfl
end
section
/-! Pure words for the class: the row of ops, liveness. -/
def kA (n : Nat) (fk : Nat → Int32) (k : Int32) : Int32 := if inB k n = true then fk k.toNatClampNeg else 11
def nA (n : Nat) (fb : Nat → Int32) (k : Int32) : Int32 := if inB k n = true then fb k.toNatClampNeg else 0
def sA (n : Nat) (fk fa : Nat → Int32) (k : Int32) : Int32 := if kA n fk k = 0 ∨ kA n fk k = 1 ∨ kA n fk k = 2 ∨ kA n fk k = 3 ∨ kA n fk k = 4 ∨ kA n fk k = 5 ∨ kA n fk k = 6 ∨ kA n fk k = 9 then fa k.toNatClampNeg else -1
def lA (n : Nat) (fk fa fb : Nat → Int32) (k : Int32) : Int32 := if kA n fk k = 1 ∨ kA n fk k = 2 ∨ kA n fk k = 3 ∨ kA n fk k = 4 ∨ kA n fk k = 5 ∨ kA n fk k = 6 then fb k.toNatClampNeg else if kA n fk k = 8 ∨ kA n fk k = 10 then fa k.toNatClampNeg else -1
def rA (n : Nat) (fk fc : Nat → Int32) (k : Int32) : Int32 := if kA n fk k = 1 ∨ kA n fk k = 2 ∨ kA n fk k = 3 ∨ kA n fk k = 4 ∨ kA n fk k = 5 then fc k.toNatClampNeg else -1
def tA (n : Nat) (fk fa fb : Nat → Int32) (k : Int32) : Int32 := if kA n fk k = 7 then fa k.toNatClampNeg else if kA n fk k = 8 then fb k.toNatClampNeg else -1
/-- a kind other than 11 is that of an op that there is -/
theorem kA_in {n : Nat} {fk : Nat → Int32} {k : Int32} (h : kA n fk k ≠ 11) : inB k n = true := by
  unfold kA at h
  by_cases g : inB k n = true
  · exact g
  · rw [if_neg g] at h; exact absurd rfl h
theorem kA_vp {n : Nat} {fk : Nat → Int32} {k : Int32} (hn : n ≤ 60) (h : kA n fk k ≠ 11) : vp_in k 60 := sm_inB (inB_mono (kA_in h) hn)
def okOp (k a b c : Int32) : Bool :=
  if k = 0 ∨ k = 9 ∨ k = 10 then inB a 24
  else if k = 1 ∨ k = 2 ∨ k = 3 ∨ k = 4 ∨ k = 5 then inB a 24 && inB b 24 && inB c 24
  else if k = 6 then inB a 24 && inB b 24
  else if k = 7 then inB a 61
  else if k = 8 then inB a 24 && inB b 61
  else decide (k = 11)
/-- liveness: a row of masks -/
def sH (ff : Nat → Int32) (k : Int32) : Int32 := if inB k 61 = true then ff k.toNatClampNeg else 0
def bitV (v : Int32) : Int32 := if inB v 24 = true then 1 <<< (v &&& 31) else 0
def hasB (ff : Nat → Int32) (k v : Int32) : Bool := decide (¬ sH ff k &&& bitV v = 0)
def sBh (n : Nat) (fk fa fb ff : Nat → Int32) (k : Int32) : Int32 :=
  if kA n fk k = 7 then sH ff (tA n fk fa fb k)
  else if kA n fk k = 8 then sH ff (tA n fk fa fb k) ||| sH ff (k + 1)
  else if kA n fk k = 11 then 0
  else sH ff (k + 1)
def fnd (n : Nat) (fk fa fb fc ff : Nat → Int32) (k : Int32) : Int32 := (bitV (lA n fk fa fb k) ||| bitV (rA n fk fc k)) ||| (sBh n fk fa fb ff k &&& (bitV (sA n fk fa k) ^^^ (-1)))
/-- one sweep from op j - 1 down, with what has changed so far -/
def swp (n : Nat) (fk fa fb fc : Nat → Int32) : Nat → (Nat → Int32) → Int32 → (Nat → Int32) × Int32
  | 0, ff, ch => (ff, ch)
  | j + 1, ff, ch => if fnd n fk fa fb fc ff (nI j) = ff j then swp n fk fa fb fc j ff ch else swp n fk fa fb fc j (upd ff j (fnd n fk fa fb fc ff (nI j))) 1
/-- the sweeps: so many passes are left -/
def flw (n : Nat) (fk fa fb fc : Nat → Int32) : Nat → (Nat → Int32) → Int32 → (Nat → Int32)
  | 0, ff, _ => ff
  | q + 1, ff, ch => if ch = 0 then ff else flw n fk fa fb fc q (swp n fk fa fb fc n ff 0).1 (swp n fk fa fb fc n ff 0).2
end
section
section SML
variable {p : Program} {l : Launch} {e : Env} {R : Room} {s : State} {m : MethodId} {args : Array Value} {below : List Frame} {meth : Method} {c : Code} {H : Heap} {locs : List Loc} {cells slots : Nat} {Q : State → Prop}
variable {cc : ByteArray} {pc : Nat} {ls : Array Slot} {rest : List Value}
theorem sm_look (hexec : p.tables.exec = Jvm.exec) (hb : c.code = cc) {dflt : Int} {ps : Array (Int × Int)} {len : Nat} {x : Int32} {tgt : Nat} (hdg : decode cc pc = .ok (.lookupswitch dflt ps, len)) (h : (ps.toList.zip (ps.toList.drop 1)).all (fun (a, next) => a.1 < next.1) = true ∧ (pc : Int) + Op.lookupswitch.offset ps.toList dflt x.toInt = (tgt : Int))
    (k : W p l e R s m args below meth c H locs cells slots Q (F0 m tgt ls rest)) : W p l e R s m args below meth c H locs cells slots Q (F0 m pc ls (.int x :: rest)) :=
  lv_lookup hexec hb hdg h.1 rfl h.2 k
end SML
theorem sm_lookN {x : Int32} {dflt : Int} : ∀ (ps : List (Int × Int)) (keys : List Int32), sm_nk x keys → (∀ q ∈ ps, q.1 ∈ keys.map (fun k => k.toInt)) → Op.lookupswitch.offset ps dflt x.toInt = dflt
  | [], _, _, _ => rfl
  | (a, o) :: r, keys, hx, hall => by
    show (if a = x.toInt then o else Op.lookupswitch.offset r dflt x.toInt) = dflt
    have hne : a ≠ x.toInt := by
      intro e
      obtain ⟨k, hk, ek⟩ := List.mem_map.mp (hall (a, o) List.mem_cons_self)
      exact sm_nk_mem hx k hk (Int32.toInt_inj.mp (ek.trans e)).symm
    rw [if_neg hne]
    exact sm_lookN r keys hx fun q hq => hall q (List.mem_cons_of_mem _ hq)
theorem sm_lookD {pc : Nat} {dflt : Int} {ps : Array (Int × Int)} {x : Int32} {tgt : Nat} (keys : List Int32) (hx : sm_nk x keys) (hall : (ps.toList.zip (ps.toList.drop 1)).all (fun (a, next) => a.1 < next.1) = true ∧ ∀ q ∈ ps.toList, q.1 ∈ keys.map (fun k => k.toInt)) (ht : (pc : Int) + dflt = (tgt : Int)) : (ps.toList.zip (ps.toList.drop 1)).all (fun (a, next) => a.1 < next.1) = true ∧ (pc : Int) + Op.lookupswitch.offset ps.toList dflt x.toInt = (tgt : Int) :=
  ⟨hall.1, by rw [sm_lookN ps.toList keys hx hall.2]; exact ht⟩
end
section
/-! Liveness as such, for one value: ops k < n with kinds kd, targets tg; rd, st: does op k read, set the value. -/
def li_nx (kd : Nat → Int32) (tg : Nat → Nat) (g : Nat → Bool) (k : Nat) : Bool := if kd k = 7 then g (tg k) else if kd k = 8 then g (tg k) || g (k + 1) else if kd k = 11 then false else g (k + 1)
def li_stp (n : Nat) (kd : Nat → Int32) (tg : Nat → Nat) (rd st : Nat → Bool) (g : Nat → Bool) (k : Nat) : Bool := decide (k < n) && (rd k || (li_nx kd tg g k && !st k))
def li_L (n : Nat) (kd : Nat → Int32) (tg : Nat → Nat) (rd st : Nat → Bool) : Nat → Nat → Bool
  | 0, _ => false
  | i + 1, k => li_stp n kd tg rd st (li_L n kd tg rd st i) k
/-- live: by a way of any length -/
def li_Live (n : Nat) (kd : Nat → Int32) (tg : Nat → Nat) (rd st : Nat → Bool) (k : Nat) : Prop := ∃ i, li_L n kd tg rd st i k = true
section LVP
variable {n : Nat} {kd : Nat → Int32} {tg : Nat → Nat} {rd st : Nat → Bool}
theorem li_nx_mono {g g' : Nat → Bool} (h : ∀ k, g k = true → g' k = true) (k : Nat) : li_nx kd tg g k = true → li_nx kd tg g' k = true := by
  unfold li_nx
  by_cases h7 : kd k = 7
  · rw [if_pos h7, if_pos h7]; exact h _
  · rw [if_neg h7, if_neg h7]
    by_cases h8 : kd k = 8
    · rw [if_pos h8, if_pos h8]
      intro z
      rcases Bool.or_eq_true_iff.mp z with q | q
      · exact Bool.or_eq_true_iff.mpr (Or.inl (h _ q))
      · exact Bool.or_eq_true_iff.mpr (Or.inr (h _ q))
    · rw [if_neg h8, if_neg h8]
      by_cases h11 : kd k = 11
      · rw [if_pos h11, if_pos h11]; exact id
      · rw [if_neg h11, if_neg h11]; exact h _
theorem li_stp_iff {g : Nat → Bool} {k : Nat} : li_stp n kd tg rd st g k = true ↔ k < n ∧ (rd k = true ∨ (li_nx kd tg g k = true ∧ st k = false)) := by
  unfold li_stp
  simp only [Bool.and_eq_true, decide_eq_true_eq, Bool.or_eq_true, Bool.not_eq_true']
theorem li_stp_mono {g g' : Nat → Bool} (h : ∀ k, g k = true → g' k = true) (k : Nat) (z : li_stp n kd tg rd st g k = true) : li_stp n kd tg rd st g' k = true := by
  obtain ⟨a, b⟩ := li_stp_iff.mp z
  refine li_stp_iff.mpr ⟨a, ?_⟩
  rcases b with b | b
  · exact Or.inl b
  · exact Or.inr ⟨li_nx_mono h k b.1, b.2⟩
theorem li_L_mono (i : Nat) : ∀ k, li_L n kd tg rd st i k = true → li_L n kd tg rd st (i + 1) k = true := by
  induction i with
  | zero => intro k z; exact absurd z (by simp [li_L])
  | succ i ih => intro k z; exact li_stp_mono ih k z
theorem li_L_le {i j : Nat} (h : i ≤ j) : ∀ k, li_L n kd tg rd st i k = true → li_L n kd tg rd st j k = true := by
  induction h with
  | refl => intro k z; exact z
  | step _ ih => intro k z; exact li_L_mono _ k (ih k z)
/-- what is closed under a step holds all of it -/
theorem li_fix {g : Nat → Bool} (h : ∀ k, li_stp n kd tg rd st g k = true → g k = true) (i : Nat) : ∀ k, li_L n kd tg rd st i k = true → g k = true := by
  induction i with
  | zero => intro k z; exact absurd z (by simp [li_L])
  | succ i ih => intro k z; exact h k (li_stp_mono ih k z)
theorem li_fixL {g : Nat → Bool} (h : ∀ k, li_stp n kd tg rd st g k = true → g k = true) {k : Nat} (z : li_Live n kd tg rd st k) : g k = true := z.elim fun i hi => li_fix h i k hi
theorem li_Live_lt {k : Nat} (z : li_Live n kd tg rd st k) : k < n := by
  obtain ⟨i, hi⟩ := z
  cases i with
  | zero => exact absurd hi (by simp [li_L])
  | succ i => exact (li_stp_iff.mp hi).1
theorem li_Live_step {g : Nat → Bool} (h : ∀ k, g k = true → li_Live n kd tg rd st k) {k : Nat} (z : li_stp n kd tg rd st g k = true) : li_Live n kd tg rd st k := by
  obtain ⟨a, b⟩ := li_stp_iff.mp z
  rcases b with b | ⟨b, b2⟩
  · exact ⟨1, li_stp_iff.mpr ⟨a, Or.inl b⟩⟩
  · have key : ∃ i, li_nx kd tg (li_L n kd tg rd st i) k = true := by
      unfold li_nx at b ⊢
      by_cases h7 : kd k = 7
      · rw [if_pos h7] at b
        obtain ⟨i, hi⟩ := h _ b
        exact ⟨i, by rw [if_pos h7]; exact hi⟩
      · rw [if_neg h7] at b
        by_cases h8 : kd k = 8
        · rw [if_pos h8] at b
          rcases Bool.or_eq_true_iff.mp b with q | q
          · obtain ⟨i, hi⟩ := h _ q
            exact ⟨i, by rw [if_neg h7, if_pos h8]; exact Bool.or_eq_true_iff.mpr (Or.inl hi)⟩
          · obtain ⟨i, hi⟩ := h _ q
            exact ⟨i, by rw [if_neg h7, if_pos h8]; exact Bool.or_eq_true_iff.mpr (Or.inr hi)⟩
        · rw [if_neg h8] at b
          by_cases h11 : kd k = 11
          · rw [if_pos h11] at b; exact absurd b (by decide)
          · rw [if_neg h11] at b
            obtain ⟨i, hi⟩ := h _ b
            exact ⟨i, by rw [if_neg h7, if_neg h8, if_neg h11]; exact hi⟩
    obtain ⟨i, hi⟩ := key
    exact ⟨i + 1, li_stp_iff.mpr ⟨a, Or.inr ⟨hi, b2⟩⟩⟩
end LVP
/-- how many below n -/
def cnB (g : Nat → Bool) : Nat → Nat
  | 0 => 0
  | n + 1 => cnB g n + (if g n = true then 1 else 0)
theorem cnB_le (g : Nat → Bool) (n : Nat) : cnB g n ≤ n := by
  induction n with
  | zero => exact Nat.le_refl 0
  | succ n ih =>
    show cnB g n + _ ≤ n + 1
    by_cases h : g n = true
    · rw [if_pos h]; omega
    · rw [if_neg h]; omega
theorem cnB_mono {g g' : Nat → Bool} (h : ∀ k, g k = true → g' k = true) (n : Nat) : cnB g n ≤ cnB g' n := by
  induction n with
  | zero => exact Nat.le_refl 0
  | succ n ih =>
    show cnB g n + _ ≤ cnB g' n + _
    by_cases h1 : g n = true
    · rw [if_pos h1, if_pos (h n h1)]; omega
    · rw [if_neg h1]; omega
theorem cnB_lt {g g' : Nat → Bool} (h : ∀ k, g k = true → g' k = true) {k : Nat} (h1 : g' k = true) (h2 : ¬ g k = true) : ∀ n, k < n → cnB g n < cnB g' n := by
  intro n
  induction n with
  | zero => intro z; exact absurd z (Nat.not_lt_zero _)
  | succ n ih =>
    intro z
    show cnB g n + _ < cnB g' n + _
    by_cases e : k = n
    · subst e
      rw [if_pos h1, if_neg h2]
      have := cnB_mono h k
      omega
    · have := ih (by omega)
      by_cases h3 : g n = true
      · rw [if_pos h3, if_pos (h n h3)]; omega
      · rw [if_neg h3]; omega
section LVQ
variable {n : Nat} {kd : Nat → Int32} {tg : Nat → Nat} {rd st : Nat → Bool}
theorem li_stab (i : Nat) : (∃ j, j ≤ i ∧ ∀ k, li_L n kd tg rd st (j + 1) k = true → li_L n kd tg rd st j k = true) ∨ i ≤ cnB (li_L n kd tg rd st i) n := by
  induction i with
  | zero => exact Or.inr (Nat.zero_le _)
  | succ i ih =>
    rcases ih with ⟨j, hj, h⟩ | h
    · exact Or.inl ⟨j, by omega, h⟩
    · by_cases q : ∀ k, li_L n kd tg rd st (i + 1) k = true → li_L n kd tg rd st i k = true
      · exact Or.inl ⟨i, by omega, q⟩
      · obtain ⟨k, hk⟩ := Classical.not_forall.mp q
        have hk1 : li_L n kd tg rd st (i + 1) k = true := Classical.byContradiction fun z => hk fun y => absurd y z
        have hk2 : ¬ li_L n kd tg rd st i k = true := fun z => hk fun _ => z
        have := cnB_lt (li_L_mono i) hk1 hk2 n (li_stp_iff.mp hk1).1
        exact Or.inr (by omega)
/-- after more steps than there are ops nothing new comes -/
theorem li_L_all {N : Nat} (hN : n < N) {k : Nat} (z : li_Live n kd tg rd st k) : li_L n kd tg rd st N k = true := by
  rcases li_stab (n := n) (kd := kd) (tg := tg) (rd := rd) (st := st) N with ⟨j, hj, h⟩ | h
  · exact li_L_le hj k (li_fixL (g := li_L n kd tg rd st j) h z)
  · exact absurd (Nat.le_trans h (cnB_le _ n)) (by omega)
end LVQ
end
section
/-! The class's masks hold liveness. (bt and its rows: begun as kit/laws/BITS.to-paste.) -/
def bt (x : Int32) (i : Nat) : Bool := x.toBitVec.getLsbD i
theorem b_or (x y : Int32) (i : Nat) : bt (x ||| y) i = (bt x i || bt y i) := by unfold bt; rw [Int32.toBitVec_or, BitVec.getLsbD_or]
theorem b_and (x y : Int32) (i : Nat) : bt (x &&& y) i = (bt x i && bt y i) := by unfold bt; rw [Int32.toBitVec_and, BitVec.getLsbD_and]
theorem b_xor (x y : Int32) (i : Nat) : bt (x ^^^ y) i = (bt x i ^^ bt y i) := by unfold bt; rw [Int32.toBitVec_xor, BitVec.getLsbD_xor]
theorem b_m1 : ∀ i, i < 32 → bt (-1) i = true := by decide +kernel
theorem b_0 (i : Nat) : bt 0 i = false := BitVec.getLsbD_zero
theorem b_one : ∀ w, w < 24 → ∀ v, v < 24 → bt ((1 : Int32) <<< (nI w &&& 31)) v = decide (w = v) := by decide +kernel
theorem b_and1 : ∀ v, v < 24 → ∀ i, i < 32 → bt ((1 : Int32) <<< (nI v &&& 31)) i = decide (v = i) := by decide +kernel
theorem b_ext {x y : Int32} (h : ∀ i, i < 32 → bt x i = bt y i) : x = y := Int32.toBitVec_inj.mp (BitVec.eq_of_getLsbD_eq (fun i hi => h i hi))
theorem nI_inj {a b : Nat} (ha : a < 2 ^ 31) (hb : b < 2 ^ 31) (h : nI a = nI b) : a = b := (nI_eq ha hb).mp h
theorem bt_bit {x : Int32} {v : Nat} (hv : v < 24) : bt (bitV x) v = decide (x = nI v) := by
  unfold bitV
  by_cases h : inB x 24 = true
  · rw [if_pos h]
    obtain ⟨w, hw, rfl⟩ := inB_j h (by decide)
    rw [b_one w hw v hv]
    congr 1
    simp only [eq_iff_iff]
    exact ⟨fun z => by rw [z], fun z => nI_inj (by omega) (by omega) z⟩
  · rw [if_neg h, b_0]
    refine (decide_eq_false fun z => h ?_).symm
    rw [z, inB_nI (by omega)]
    exact decide_eq_true hv
theorem bt_andz {x : Int32} {v : Nat} (hv : v < 24) : (¬ x &&& bitV (nI v) = 0) ↔ bt x v = true := by
  have hb : bitV (nI v) = 1 <<< (nI v &&& 31) := if_pos (by rw [inB_nI (by omega)]; exact decide_eq_true hv)
  constructor
  · intro h
    cases hx : bt x v with
    | true => rfl
    | false =>
      refine absurd (b_ext fun i hi => ?_) h
      rw [b_and, hb, b_and1 v hv i hi, b_0]
      by_cases e : v = i
      · subst e; rw [hx]; rfl
      · rw [decide_eq_false e, Bool.and_false]
  · intro h z
    have q := b_and x (bitV (nI v)) v
    rw [z, b_0, h, hb, b_one v hv v hv, decide_eq_true rfl] at q
    exact absurd q (by decide)
/-- every op that there is is one that op(..) took -/
def okRow (n : Nat) (fk fa fb fc : Nat → Int32) : Prop := ∀ k, k < n → okOp (fk k) (fa k) (fb k) (fc k) = true
theorem kA_nI {n k : Nat} {fk : Nat → Int32} (hk : k < n) (hn : n ≤ 60) : kA n fk (nI k) = fk k := by
  unfold kA
  rw [if_pos (by rw [inB_nI (by omega)]; exact decide_eq_true hk), nI_clamp (by omega)]
def tgN (fk fa fb : Nat → Int32) (k : Nat) : Nat := if fk k = 7 then (fa k).toNatClampNeg else (fb k).toNatClampNeg
def rdB (n : Nat) (fk fa fb fc : Nat → Int32) (v k : Nat) : Bool := decide (lA n fk fa fb (nI k) = nI v) || decide (rA n fk fc (nI k) = nI v)
def stB (n : Nat) (fk fa : Nat → Int32) (v k : Nat) : Bool := decide (sA n fk fa (nI k) = nI v)
/-- live in the row -/
def LiveR (n : Nat) (fk fa fb fc : Nat → Int32) (v k : Nat) : Prop := li_Live n fk (tgN fk fa fb) (rdB n fk fa fb fc v) (stB n fk fa v) k
theorem sH_nI {ff : Nat → Int32} {k : Nat} (hk : k < 61) : sH ff (nI k) = ff k := by
  unfold sH
  rw [if_pos (by rw [inB_nI (by omega)]; exact decide_eq_true hk), nI_clamp (by omega)]
theorem sH_in {ff : Nat → Int32} {x : Int32} (h : inB x 61 = true) : sH ff x = ff x.toNatClampNeg := if_pos h
theorem ok7 {a b c : Int32} {k : Int32} (h : okOp k a b c = true) (h7 : k = 7) : inB a 61 = true := by
  subst h7; simpa [okOp] using h
theorem ok8 {a b c : Int32} {k : Int32} (h : okOp k a b c = true) (h8 : k = 8) : inB a 24 = true ∧ inB b 61 = true := by
  subst h8; simpa [okOp] using h
section MSK
variable {n : Nat} {fk fa fb fc : Nat → Int32} {v : Nat}
theorem fnd_bt (hn : n ≤ 60) (hok : okRow n fk fa fb fc) (hv : v < 24) {ff : Nat → Int32} {k : Nat} (hk : k < n) :
    bt (fnd n fk fa fb fc ff (nI k)) v = li_stp n fk (tgN fk fa fb) (rdB n fk fa fb fc v) (stB n fk fa v) (fun j => bt (ff j) v) k := by
  have hkA : kA n fk (nI k) = fk k := kA_nI hk hn
  have e1 : nI k + 1 = nI (k + 1) := nI_1 k
  have hs : bt (sBh n fk fa fb ff (nI k)) v = li_nx fk (tgN fk fa fb) (fun j => bt (ff j) v) k := by
    unfold sBh li_nx tA tgN
    rw [hkA, e1, sH_nI (show k + 1 < 61 by omega), nI_clamp (show k < 2 ^ 31 by omega)]
    by_cases h7 : fk k = 7
    · simp only [h7, if_true]
      rw [sH_in (ok7 (hok k hk) h7)]
    · simp only [if_neg h7]
      by_cases h8 : fk k = 8
      · simp only [h8, if_true]
        rw [sH_in (ok8 (hok k hk) h8).2, b_or]
      · simp only [if_neg h8]
        by_cases h11 : fk k = 11
        · simp only [h11, if_true]; exact b_0 v
        · simp only [if_neg h11]
  unfold fnd li_stp rdB stB
  rw [b_or, b_or, b_and, b_xor, bt_bit hv, bt_bit hv, bt_bit hv, b_m1 v (by omega), hs, decide_eq_true hk]
  simp only [Bool.true_and, Bool.bne_true, Bool.xor_true]
theorem swp_ok (hn : n ≤ 60) (hok : okRow n fk fa fb fc) (hv : v < 24) : ∀ (j : Nat) (ff : Nat → Int32) (ch : Int32), j ≤ n →
    (∀ k, bt (ff k) v = true → li_stp n fk (tgN fk fa fb) (rdB n fk fa fb fc v) (stB n fk fa v) (fun i => bt (ff i) v) k = true) →
    (∀ k, bt (ff k) v = true → LiveR n fk fa fb fc v k) →
    (∀ k, bt (ff k) v = true → bt ((swp n fk fa fb fc j ff ch).1 k) v = true) ∧
    (∀ k, bt ((swp n fk fa fb fc j ff ch).1 k) v = true → li_stp n fk (tgN fk fa fb) (rdB n fk fa fb fc v) (stB n fk fa v) (fun i => bt ((swp n fk fa fb fc j ff ch).1 i) v) k = true) ∧
    (∀ k, bt ((swp n fk fa fb fc j ff ch).1 k) v = true → LiveR n fk fa fb fc v k) ∧
    (∀ k, k < j → li_stp n fk (tgN fk fa fb) (rdB n fk fa fb fc v) (stB n fk fa v) (fun i => bt (ff i) v) k = true → bt ((swp n fk fa fb fc j ff ch).1 k) v = true) := by
  intro j
  induction j with
  | zero => intro ff ch _ hp hs; exact ⟨fun k z => z, hp, hs, fun k z => absurd z (Nat.not_lt_zero _)⟩
  | succ j ih =>
    intro ff ch hj hp hs
    have hfb := fnd_bt hn hok hv (ff := ff) (k := j) (by omega)
    -- the row behind this op's turn
    have key : ∃ (f1 : Nat → Int32) (c1 : Int32), swp n fk fa fb fc (j + 1) ff ch = swp n fk fa fb fc j f1 c1 ∧ f1 j = fnd n fk fa fb fc ff (nI j) ∧ ∀ k, k ≠ j → f1 k = ff k := by
      by_cases q : fnd n fk fa fb fc ff (nI j) = ff j
      · exact ⟨ff, ch, by rw [swp, if_pos q], q.symm, fun _ _ => rfl⟩
      · exact ⟨upd ff j (fnd n fk fa fb fc ff (nI j)), 1, by rw [swp, if_neg q], pk_us, fun k hk => pk_un hk⟩
    obtain ⟨f1, c1, e, ej, eo⟩ := key
    rw [e]
    have up : ∀ k, bt (ff k) v = true → bt (f1 k) v = true := by
      intro k z
      by_cases q : k = j
      · subst q; rw [ej, hfb]; exact hp k z
      · rw [eo k q]; exact z
    have hp1 : ∀ k, bt (f1 k) v = true → li_stp n fk (tgN fk fa fb) (rdB n fk fa fb fc v) (stB n fk fa v) (fun i => bt (f1 i) v) k = true := by
      intro k z
      refine li_stp_mono up k ?_
      by_cases q : k = j
      · subst q; rw [ej, hfb] at z; exact z
      · rw [eo k q] at z; exact hp k z
    have hs1 : ∀ k, bt (f1 k) v = true → LiveR n fk fa fb fc v k := by
      intro k z
      by_cases q : k = j
      · subst q; rw [ej, hfb] at z; exact li_Live_step hs z
      · rw [eo k q] at z; exact hs k z
    obtain ⟨a1, a2, a3, a4⟩ := ih f1 c1 (by omega) hp1 hs1
    refine ⟨fun k z => a1 k (up k z), a2, a3, fun k hk z => ?_⟩
    by_cases q : k = j
    · subst q; exact a1 k (by rw [ej, hfb]; exact z)
    · exact a4 k (by omega) (li_stp_mono up k z)
/-- the mark stays once set -/
theorem swp_ch : ∀ (j : Nat) (ff : Nat → Int32), (swp n fk fa fb fc j ff 1).2 = 1 := by
  intro j
  induction j with
  | zero => intro ff; rfl
  | succ j ih =>
    intro ff
    by_cases q : fnd n fk fa fb fc ff (nI j) = ff j
    · rw [swp, if_pos q]; exact ih ff
    · rw [swp, if_neg q]; exact ih _
theorem swp_ch0 : ∀ (j : Nat) (ff : Nat → Int32), (swp n fk fa fb fc j ff 0).2 = 0 → (swp n fk fa fb fc j ff 0).1 = ff ∧ ∀ k, k < j → fnd n fk fa fb fc ff (nI k) = ff k := by
  intro j
  induction j with
  | zero => intro ff _; exact ⟨rfl, fun k z => absurd z (Nat.not_lt_zero _)⟩
  | succ j ih =>
    intro ff
    by_cases q : fnd n fk fa fb fc ff (nI j) = ff j
    · rw [swp, if_pos q]
      intro z
      obtain ⟨a, b⟩ := ih ff z
      refine ⟨a, fun k hk => ?_⟩
      by_cases e : k = j
      · subst e; exact q
      · exact b k (by omega)
    · rw [swp, if_neg q]
      intro z
      rw [swp_ch] at z
      exact absurd z (by decide)
theorem swp_01 : ∀ (j : Nat) (ff : Nat → Int32) (ch : Int32), (ch = 0 ∨ ch = 1) → ((swp n fk fa fb fc j ff ch).2 = 0 ∨ (swp n fk fa fb fc j ff ch).2 = 1) := by
  intro j
  induction j with
  | zero => intro ff ch h; exact h
  | succ j ih =>
    intro ff ch h
    by_cases q : fnd n fk fa fb fc ff (nI j) = ff j
    · rw [swp, if_pos q]; exact ih ff ch h
    · rw [swp, if_neg q]; exact ih _ 1 (Or.inr rfl)
theorem flw_ok (hn : n ≤ 60) (hok : okRow n fk fa fb fc) (hv : v < 24) : ∀ (q i : Nat) (ff : Nat → Int32) (ch : Int32), q + i = 61 →
    (∀ k, bt (ff k) v = true → li_stp n fk (tgN fk fa fb) (rdB n fk fa fb fc v) (stB n fk fa v) (fun i => bt (ff i) v) k = true) →
    (∀ k, bt (ff k) v = true → LiveR n fk fa fb fc v k) →
    (∀ k, li_L n fk (tgN fk fa fb) (rdB n fk fa fb fc v) (stB n fk fa v) i k = true → bt (ff k) v = true) →
    (ch = 0 → ∀ k, k < n → fnd n fk fa fb fc ff (nI k) = ff k) →
    ∀ k, bt ((flw n fk fa fb fc q ff ch) k) v = true ↔ LiveR n fk fa fb fc v k := by
  intro q
  induction q with
  | zero =>
    intro i ff ch hi hp hs hL hc k
    show bt (ff k) v = true ↔ _
    exact ⟨hs k, fun z => hL k (li_L_all (by omega) z)⟩
  | succ q ih =>
    intro i ff ch hi hp hs hL hc k
    by_cases c0 : ch = 0
    · rw [flw, if_pos c0]
      refine ⟨hs k, fun z => li_fixL (g := fun j => bt (ff j) v) (fun j hj => ?_) z⟩
      have hjn : j < n := (li_stp_iff.mp hj).1
      show bt (ff j) v = true
      rw [← hc c0 j hjn, fnd_bt hn hok hv hjn]
      exact hj
    · rw [flw, if_neg c0]
      obtain ⟨a1, a2, a3, a4⟩ := swp_ok hn hok hv n ff 0 (Nat.le_refl n) hp hs
      refine ih (i + 1) _ _ (by omega) a2 a3 (fun j hj => a4 j (li_stp_iff.mp hj).1 (li_stp_mono hL j hj)) (fun z => ?_) k
      obtain ⟨b1, b2⟩ := swp_ch0 n ff z
      rw [b1]
      exact b2
/-- THE CLASS'S LIVENESS -/
theorem flw_live (hn : n ≤ 60) (hok : okRow n fk fa fb fc) (hv : v < 24) (k : Nat) : bt (flw n fk fa fb fc 61 (fun _ => 0) 1 k) v = true ↔ LiveR n fk fa fb fc v k :=
  flw_ok hn hok hv 61 0 (fun _ => 0) 1 rfl (fun k z => absurd z (by rw [b_0]; decide)) (fun k z => absurd z (by rw [b_0]; decide)) (fun k z => absurd z (by simp [li_L])) (fun z => absurd z (by decide)) k
theorem hasB_live (hn : n ≤ 60) (hok : okRow n fk fa fb fc) (hv : v < 24) {k : Nat} (hk : k < 61) : hasB (flw n fk fa fb fc 61 (fun _ => 0) 1) (nI k) (nI v) = true ↔ LiveR n fk fa fb fc v k := by
  unfold hasB
  rw [decide_eq_true_eq, sH_nI hk, bt_andz hv]
  exact flw_live hn hok hv k
end MSK
end
section
/-! Pure words for the class's scan. -/
def fO (f : Nat → Int32) (v : Int32) : Int32 := if inB v 24 = true then f v.toNatClampNeg else -2
def rO (f : Nat → Int32) (v : Int32) : Int32 := if inB v 24 = true then f v.toNatClampNeg else -1
def arB (la : Nat → Int32) (v : Int32) : Bool := inB v 24 && decide (¬ la v.toNatClampNeg = -2)
def ovB (ov : Nat → Int32) (v : Int32) : Bool := inB v 24 && decide (¬ ov v.toNatClampNeg = 0)
/-- values with registers: q values are left, v the next -/
def cR (rg : Nat → Int32) : Nat → Nat → Nat → Nat
  | 0, _, c => c
  | q + 1, v, c => if rg v = -1 then cR rg q (v + 1) c else cR rg q (v + 1) (c + 1)
def nF (fi la : Nat → Int32) (j : Nat) (t : Int32) : Nat → Int32 := if la j = -2 then upd fi j t else fi
/-- the times of value v: q ops are left, k the next -/
def ftK (n : Nat) (fk fa ff : Nat → Int32) (v : Nat) : Nat → Nat → (Nat → Int32) → (Nat → Int32) → (Nat → Int32) × (Nat → Int32)
  | 0, _, fi, la => (fi, la)
  | q + 1, k, fi, la =>
    if hasB ff (nI k) (nI v) = true then
      if sA n fk fa (nI k) = nI v then ftK n fk fa ff v q (k + 1) (nF (nF fi la v (nI (2 * k))) (upd la v (nI (2 * k))) v (nI (2 * k + 1))) (upd (upd la v (nI (2 * k))) v (nI (2 * k + 1)))
      else ftK n fk fa ff v q (k + 1) (nF fi la v (nI (2 * k))) (upd la v (nI (2 * k)))
    else if sA n fk fa (nI k) = nI v then ftK n fk fa ff v q (k + 1) (nF fi la v (nI (2 * k + 1))) (upd la v (nI (2 * k + 1)))
    else ftK n fk fa ff v q (k + 1) fi la
def ft0 (ff fi la : Nat → Int32) (v : Nat) : (Nat → Int32) × (Nat → Int32) := if hasB ff 0 (nI v) = true then (nF fi la v (-1), upd la v (-1)) else (fi, la)
def ftO (n : Nat) (fk fa ff : Nat → Int32) : Nat → Nat → (Nat → Int32) → (Nat → Int32) → (Nat → Int32) × (Nat → Int32)
  | 0, _, fi, la => (fi, la)
  | q + 1, v, fi, la => ftO n fk fa ff q (v + 1) (ftK n fk fa ff v n 0 (ft0 ff fi la v).1 (ft0 ff fi la v).2).1 (ftK n fk fa ff v n 0 (ft0 ff fi la v).1 (ft0 ff fi la v).2).2
/-- over a call: q ops are left -/
def ocK (n : Nat) (fk fi la : Nat → Int32) (v : Nat) : Nat → Nat → (Nat → Int32) → (Nat → Int32)
  | 0, _, ov => ov
  | q + 1, k, ov => if kA n fk (nI k) = 9 ∧ arB la (nI v) = true ∧ ¬ nI (2 * k) < fi v ∧ ¬ la v ≤ nI (2 * k) then ocK n fk fi la v q (k + 1) (upd ov v 1) else ocK n fk fi la v q (k + 1) ov
def ocO (n : Nat) (fk fi la : Nat → Int32) : Nat → Nat → (Nat → Int32) → (Nat → Int32)
  | 0, _, ov => ov
  | q + 1, v, ov => ocO n fk fi la q (v + 1) (ocK n fk fi la v n 0 (upd ov v 0))
/-- a value is put in: places down from w -/
def ins (fi : Nat → Int32) (v : Nat) : Nat → (Nat → Int32) → (Nat → Int32)
  | 0, od => upd od 0 (nI v)
  | w + 1, od => if fO fi (od w) ≤ fi v then upd od (w + 1) (nI v) else ins fi v w (upd od (w + 1) (od w))
def odO (fi la : Nat → Int32) : Nat → Nat → Nat → (Nat → Int32) → Nat × (Nat → Int32)
  | 0, _, w, od => (w, od)
  | q + 1, v, w, od => if arB la (nI v) = true then odO fi la q (v + 1) (w + 1) (ins fi v w od) else odO fi la q (v + 1) w od
/-- the least free place: q places are left, p the next -/
def lF (fi la ho : Nat → Int32) (x : Int32) : Nat → Nat → Int32
  | 0, _ => -1
  | q + 1, p => if fO fi x ≤ fO la (ho p) then lF fi la ho x q (p + 1) else nI p
def rhl (la rh : Nat → Int32) : Nat → Nat → Int32 → Int32 → Int32
  | 0, _, f, _ => f
  | q + 1, p, f, g => if fO la (rh p) < g then rhl la rh q (p + 1) f g else rhl la rh q (p + 1) (nI p) (fO la (rh p))
/-- one value and the registers: the registers' row, the holders' row -/
def gvR (fi la rg rh : Nat → Int32) (w : Nat) (x : Int32) : (Nat → Int32) × (Nat → Int32) :=
  if lF fi la rh x w 0 = -1 then
    if rhl la rh w 0 (-1) (-2) = -1 then (rg, rh)
    else if inB (rh (rhl la rh w 0 (-1) (-2)).toNatClampNeg) 24 = false then (rg, rh)
    else if la (rh (rhl la rh w 0 (-1) (-2)).toNatClampNeg).toNatClampNeg ≤ fO la x then (rg, rh)
    else (upd (upd rg (rh (rhl la rh w 0 (-1) (-2)).toNatClampNeg).toNatClampNeg (-1)) x.toNatClampNeg (rhl la rh w 0 (-1) (-2)), upd rh (rhl la rh w 0 (-1) (-2)).toNatClampNeg x)
  else (upd rg x.toNatClampNeg (lF fi la rh x w 0), upd rh (lF fi la rh x w 0).toNatClampNeg x)
def gRs (fi la ov od : Nat → Int32) (w : Nat) : Nat → Nat → (Nat → Int32) → (Nat → Int32) → (Nat → Int32) × (Nat → Int32)
  | 0, _, rg, rh => (rg, rh)
  | q + 1, i, rg, rh => if ovB ov (od i) = true then gRs fi la ov od w q (i + 1) rg rh else gRs fi la ov od w q (i + 1) (gvR fi la rg rh w (od i)).1 (gvR fi la rg rh w (od i)).2
def gvS (fi la sl sh : Nat → Int32) (c : Int32) (x : Int32) : (Nat → Int32) × (Nat → Int32) × Int32 :=
  if lF fi la sh x 24 0 = -1 then (sl, sh, c) else (upd sl x.toNatClampNeg (lF fi la sh x 24 0), upd sh (lF fi la sh x 24 0).toNatClampNeg x, if c < lF fi la sh x 24 0 + 1 then lF fi la sh x 24 0 + 1 else c)
def gSs (fi la rg od : Nat → Int32) : Nat → Nat → (Nat → Int32) → (Nat → Int32) → Int32 → (Nat → Int32) × (Nat → Int32) × Int32
  | 0, _, sl, sh, c => (sl, sh, c)
  | q + 1, i, sl, sh, c => if rg (od i).toNatClampNeg = -1 then gSs fi la rg od q (i + 1) (gvS fi la sl sh c (od i)).1 (gvS fi la sl sh c (od i)).2.1 (gvS fi la sl sh c (od i)).2.2 else gSs fi la rg od q (i + 1) sl sh c
theorem lF_in {fi la ho : Nat → Int32} {x : Int32} : ∀ (q p : Nat), lF fi la ho x q p = -1 ∨ ∃ j, p ≤ j ∧ j < p + q ∧ lF fi la ho x q p = nI j := by
  intro q
  induction q with
  | zero => intro p; exact Or.inl rfl
  | succ q ih =>
    intro p
    by_cases h : fO fi x ≤ fO la (ho p)
    · rw [lF, if_pos h]
      rcases ih (p + 1) with e | ⟨j, h1, h2, h3⟩
      · exact Or.inl e
      · exact Or.inr ⟨j, by omega, by omega, h3⟩
    · rw [lF, if_neg h]
      exact Or.inr ⟨p, Nat.le_refl p, by omega, rfl⟩
theorem rhl_in {la rh : Nat → Int32} : ∀ (q p : Nat) (f g : Int32), rhl la rh q p f g = f ∨ ∃ j, p ≤ j ∧ j < p + q ∧ rhl la rh q p f g = nI j := by
  intro q
  induction q with
  | zero => intro p f g; exact Or.inl rfl
  | succ q ih =>
    intro p f g
    by_cases h : fO la (rh p) < g
    · rw [rhl, if_pos h]
      rcases ih (p + 1) f g with e | ⟨j, h1, h2, h3⟩
      · exact Or.inl e
      · exact Or.inr ⟨j, by omega, by omega, h3⟩
    · rw [rhl, if_neg h]
      rcases ih (p + 1) (nI p) (fO la (rh p)) with e | ⟨j, h1, h2, h3⟩
      · exact Or.inr ⟨p, Nat.le_refl p, by omega, e⟩
      · exact Or.inr ⟨j, by omega, by omega, h3⟩
theorem lF_inB {fi la ho : Nat → Int32} {x : Int32} {w N : Nat} (hw : w ≤ N) (h : ¬ lF fi la ho x w 0 = -1) (hN : N ≤ 1000 := by decide) : inB (lF fi la ho x w 0) N = true := by
  obtain ⟨j, -, h2, h3⟩ := (lF_in w 0).resolve_left h
  rw [h3, inB_nI (by omega)]
  exact decide_eq_true (by omega)
theorem rhl_inB {la rh : Nat → Int32} {w N : Nat} {g : Int32} (hw : w ≤ N) (h : ¬ rhl la rh w 0 (-1) g = -1) (hN : N ≤ 1000 := by decide) : inB (rhl la rh w 0 (-1) g) N = true := by
  obtain ⟨j, -, h2, h3⟩ := (rhl_in w 0 (-1) g).resolve_left h
  rw [h3, inB_nI (by omega)]
  exact decide_eq_true (by omega)
end
section
/-! The order of the values: the class's row, the model's choice of the next one. -/
/-- a comes ahead of b: by first times, then by numbers -/
def bef (fi : Nat → Int32) (a b : Nat) : Prop := (fi a).toInt < (fi b).toInt ∨ ((fi a).toInt = (fi b).toInt ∧ a < b)
theorem bef_irr {fi : Nat → Int32} {a : Nat} : ¬ bef fi a a := by unfold bef; omega
theorem bef_tr {fi : Nat → Int32} {a b c : Nat} (h : bef fi a b) (k : bef fi b c) : bef fi a c := by unfold bef at *; omega
theorem bef_tot {fi : Nat → Int32} {a b : Nat} (h : a ≠ b) : bef fi a b ∨ bef fi b a := by unfold bef; omega
theorem fO_nI {f : Nat → Int32} {a : Nat} (h : a < 24) : fO f (nI a) = f a := by
  unfold fO
  rw [if_pos (by rw [inB_nI (by omega)]; exact decide_eq_true h), nI_clamp (by omega)]
theorem rO_nI {f : Nat → Int32} {a : Nat} (h : a < 24) : rO f (nI a) = f a := by
  unfold rO
  rw [if_pos (by rw [inB_nI (by omega)]; exact decide_eq_true h), nI_clamp (by omega)]
theorem arB_nI {la : Nat → Int32} {a : Nat} (h : a < 24) : arB la (nI a) = decide (¬ la a = -2) := by
  unfold arB
  rw [inB_nI (by omega), decide_eq_true h, nI_clamp (by omega), Bool.true_and]
theorem ovB_nI {ov : Nat → Int32} {a : Nat} (h : a < 24) : ovB ov (nI a) = decide (¬ ov a = 0) := by
  unfold ovB
  rw [inB_nI (by omega), decide_eq_true h, nI_clamp (by omega), Bool.true_and]
theorem ins_hi {fi : Nat → Int32} {v : Nat} : ∀ (w : Nat) (od : Nat → Int32) (i : Nat), w < i → ins fi v w od i = od i := by
  intro w
  induction w with
  | zero => intro od i h; rw [ins]; exact pk_un (by omega)
  | succ w ih =>
    intro od i h
    by_cases q : fO fi (od w) ≤ fi v
    · rw [ins, if_pos q]; exact pk_un (by omega)
    · rw [ins, if_neg q, ih _ i (by omega)]; exact pk_un (by omega)
theorem ins_spec {fi : Nat → Int32} {v : Nat} : ∀ (w : Nat) (od : Nat → Int32), ∃ p, p ≤ w ∧ (∀ i, i < p → ins fi v w od i = od i) ∧ ins fi v w od p = nI v ∧ (∀ i, p < i → i ≤ w → ins fi v w od i = od (i - 1)) ∧ (p = 0 ∨ fO fi (od (p - 1)) ≤ fi v) ∧ ∀ i, p ≤ i → i < w → ¬ fO fi (od i) ≤ fi v := by
  intro w
  induction w with
  | zero => intro od; exact ⟨0, Nat.le_refl 0, fun i h => absurd h (Nat.not_lt_zero _), by rw [ins]; exact pk_us, fun i h1 h2 => by omega, Or.inl rfl, fun i _ h => absurd h (Nat.not_lt_zero _)⟩
  | succ w ih =>
    intro od
    by_cases q : fO fi (od w) ≤ fi v
    · refine ⟨w + 1, Nat.le_refl _, fun i h => ?_, ?_, fun i h1 h2 => by omega, Or.inr q, fun i h1 h2 => by omega⟩
      · rw [ins, if_pos q]; exact pk_un (by omega)
      · rw [ins, if_pos q]; exact pk_us
    · obtain ⟨p, h1, h2, h3, h4, h5, h6⟩ := ih (upd od (w + 1) (od w))
      have eo : ∀ i, i ≤ w → upd od (w + 1) (od w) i = od i := fun i hi => pk_un (by omega)
      refine ⟨p, by omega, fun i h => ?_, ?_, fun i g1 g2 => ?_, ?_, fun i g1 g2 => ?_⟩
      · rw [ins, if_neg q, h2 i h, eo i (by omega)]
      · rw [ins, if_neg q, h3]
      · rw [ins, if_neg q]
        by_cases e : i = w + 1
        · subst e; rw [ins_hi _ _ _ (by omega), pk_us]; rfl
        · rw [h4 i g1 (by omega), eo _ (by omega)]
      · rcases h5 with h5 | h5
        · exact Or.inl h5
        · by_cases e : p = 0
          · exact Or.inl e
          · rw [eo _ (by omega)] at h5; exact Or.inr h5
      · by_cases e : i = w
        · subst e; exact q
        · have := h6 i g1 (by omega)
          rw [eo i (by omega)] at this
          exact this
/-- the row od holds, in their order, just the values below v that are -/
def ordd (fi la : Nat → Int32) (v w : Nat) (od : Nat → Int32) : Prop :=
  w ≤ v ∧ (∀ i, i < w → ∃ a, a < v ∧ od i = nI a ∧ arB la (nI a) = true) ∧ (∀ i j a b, i < j → j < w → od i = nI a → od j = nI b → a < 24 → b < 24 → bef fi a b) ∧ ∀ a, a < v → arB la (nI a) = true → ∃ i, i < w ∧ od i = nI a
theorem ordd_ins {fi la : Nat → Int32} {v w : Nat} {od : Nat → Int32} (hv : v < 24) (h : ordd fi la v w od) (ha : arB la (nI v) = true) : ordd fi la (v + 1) (w + 1) (ins fi v w od) := by
  obtain ⟨h1, h2, h3, h4⟩ := h
  obtain ⟨p, p1, p2, p3, p4, p5, p6⟩ := ins_spec (fi := fi) (v := v) w od
  have inj : ∀ {a b : Nat}, a < 24 → b < 24 → nI a = nI b → a = b := fun ha hb e => nI_inj (by omega) (by omega) e
  -- where an entry comes from
  have src : ∀ i, i < w + 1 → (i < p ∧ ins fi v w od i = od i) ∨ (i = p ∧ ins fi v w od i = nI v) ∨ (p < i ∧ i - 1 < w ∧ ins fi v w od i = od (i - 1)) := by
    intro i hi
    rcases Nat.lt_trichotomy i p with g | g | g
    · exact Or.inl ⟨g, p2 i g⟩
    · subst g; exact Or.inr (Or.inl ⟨rfl, p3⟩)
    · exact Or.inr (Or.inr ⟨g, by omega, p4 i g (by omega)⟩)
  -- what stands ahead of p is not above v; what stands from p on is
  have lo : ∀ i a, i < p → od i = nI a → a < v → bef fi a v := by
    intro i a hi e av
    have hp0 : p ≠ 0 := by omega
    have q : fO fi (od (p - 1)) ≤ fi v := p5.resolve_left hp0
    obtain ⟨b, bv, eb, -⟩ := h2 (p - 1) (by omega)
    rw [eb, fO_nI (by omega), Int32.le_iff_toInt_le] at q
    by_cases e2 : i = p - 1
    · subst e2
      have : a = b := inj (by omega) (by omega) (e.symm.trans eb)
      subst this
      unfold bef; omega
    · have := h3 i (p - 1) a b (by omega) (by omega) e eb (by omega) (by omega)
      unfold bef at *; omega
  have hi : ∀ i a, p ≤ i → i < w → od i = nI a → a < v → bef fi v a := by
    intro i a g1 g2 e av
    have q := p6 i g1 g2
    rw [e, fO_nI (by omega), Int32.le_iff_toInt_le] at q
    unfold bef; omega
  refine ⟨by omega, fun i hi0 => ?_, fun i j a b hij hj ea eb a24 b24 => ?_, fun a hav har => ?_⟩
  · rcases src i hi0 with ⟨g, e⟩ | ⟨g, e⟩ | ⟨g, g2, e⟩
    · obtain ⟨a, av, ea, eb⟩ := h2 i (by omega)
      exact ⟨a, by omega, e.trans ea, eb⟩
    · exact ⟨v, by omega, e, ha⟩
    · obtain ⟨a, av, ea, eb⟩ := h2 (i - 1) g2
      exact ⟨a, by omega, e.trans ea, eb⟩
  · rcases src i (by omega) with ⟨g, e⟩ | ⟨g, e⟩ | ⟨g, g2, e⟩
    · obtain ⟨a', av', ea', -⟩ := h2 i (by omega)
      have : a = a' := inj a24 (by omega) (ea.symm.trans (e.trans ea'))
      subst this
      rcases src j hj with ⟨k, f⟩ | ⟨k, f⟩ | ⟨k, k2, f⟩
      · exact h3 i j a b hij (by omega) ea' (f.symm.trans eb) a24 b24
      · have : b = v := inj b24 hv (eb.symm.trans f)
        subst this
        exact lo i a g ea' av'
      · exact h3 i (j - 1) a b (by omega) (by omega) ea' (f.symm.trans eb) a24 b24
    · have : a = v := inj a24 hv (ea.symm.trans e)
      subst this
      rcases src j hj with ⟨k, f⟩ | ⟨k, f⟩ | ⟨k, k2, f⟩
      · omega
      · omega
      · obtain ⟨b', bv', eb', -⟩ := h2 (j - 1) k2
        have : b = b' := inj b24 (by omega) (eb.symm.trans (f.trans eb'))
        subst this
        exact hi (j - 1) b (by omega) k2 eb' bv'
    · rcases src j hj with ⟨k, f⟩ | ⟨k, f⟩ | ⟨k, k2, f⟩
      · omega
      · omega
      · exact h3 (i - 1) (j - 1) a b (by omega) k2 (e.symm.trans ea) (f.symm.trans eb) a24 b24
  · by_cases e : a = v
    · subst e; exact ⟨p, by omega, p3⟩
    · obtain ⟨i, hi0, ei⟩ := h4 a (by omega) har
      by_cases g : i < p
      · exact ⟨i, by omega, (p2 i g).trans ei⟩
      · exact ⟨i + 1, by omega, (p4 (i + 1) (by omega) (by omega)).trans ei⟩
theorem ordd_skip {fi la : Nat → Int32} {v w : Nat} {od : Nat → Int32} (h : ordd fi la v w od) (ha : ¬ arB la (nI v) = true) : ordd fi la (v + 1) w od := by
  obtain ⟨h1, h2, h3, h4⟩ := h
  refine ⟨by omega, fun i hi => ?_, h3, fun a hav har => ?_⟩
  · obtain ⟨a, av, e⟩ := h2 i hi
    exact ⟨a, by omega, e⟩
  · by_cases e : a = v
    · subst e; exact absurd har ha
    · exact h4 a (by omega) har
theorem odO_ok {fi la : Nat → Int32} : ∀ (q v w : Nat) (od : Nat → Int32), q + v = 24 → ordd fi la v w od → ordd fi la 24 (odO fi la q v w od).1 (odO fi la q v w od).2 := by
  intro q
  induction q with
  | zero => intro v w od hq h; rw [show v = 24 by omega] at h; exact h
  | succ q ih =>
    intro v w od hq h
    by_cases g : arB la (nI v) = true
    · rw [odO, if_pos g]; exact ih _ _ _ (by omega) (ordd_ins (by omega) h g)
    · rw [odO, if_neg g]; exact ih _ _ _ (by omega) (ordd_skip h g)
theorem ordd_0 {fi la od : Nat → Int32} : ordd fi la 0 0 od := ⟨Nat.le_refl 0, fun i h => absurd h (Nat.not_lt_zero _), fun i j a b _ h => absurd h (Nat.not_lt_zero _), fun a h => absurd h (Nat.not_lt_zero _)⟩
/-- THE CLASS'S ORDER -/
theorem odO_all (fi la od : Nat → Int32) : ordd fi la 24 (odO fi la 24 0 0 od).1 (odO fi la 24 0 0 od).2 := odO_ok 24 0 0 od rfl ordd_0
/-- the model's choice: q values are left, v the next, b the best so far -/
def nO (may : Nat → Bool) (fi : Nat → Int32) : Nat → Nat → Int32 → Int32
  | 0, _, b => b
  | q + 1, v, b => if may v = true ∧ (b = -1 ∨ fi v < fi b.toNatClampNeg) then nO may fi q (v + 1) (nI v) else nO may fi q (v + 1) b
theorem nI_ne_m1 {a : Nat} (h : a < 2 ^ 31) : nI a ≠ -1 := by
  intro e
  have := congrArg Int32.toInt e
  rw [nI_toInt h, show ((-1 : Int32)).toInt = -1 from by decide] at this
  omega
theorem nO_ok {may : Nat → Bool} {fi : Nat → Int32} : ∀ (q v : Nat) (b : Int32), q + v = 24 →
    ((b = -1 ∧ ∀ a, a < v → may a = false) ∨ ∃ a, a < v ∧ b = nI a ∧ may a = true ∧ ∀ c, c < v → may c = true → c ≠ a → bef fi a c) →
    ((nO may fi q v b = -1 ∧ ∀ a, a < 24 → may a = false) ∨ ∃ a, a < 24 ∧ nO may fi q v b = nI a ∧ may a = true ∧ ∀ c, c < 24 → may c = true → c ≠ a → bef fi a c) := by
  intro q
  induction q with
  | zero => intro v b hq h; rw [show v = 24 by omega] at h; exact h
  | succ q ih =>
    intro v b hq h
    by_cases g : may v = true ∧ (b = -1 ∨ fi v < fi b.toNatClampNeg)
    · rw [nO, if_pos g]
      refine ih _ _ (by omega) (Or.inr ⟨v, by omega, rfl, g.1, fun c hc hm hne => ?_⟩)
      rcases h with ⟨e, h0⟩ | ⟨a, av, e, ma, hmin⟩
      · rw [h0 c (by omega)] at hm; exact absurd hm (by decide)
      · have g2 := g.2.resolve_left (by rw [e]; exact nI_ne_m1 (by omega))
        rw [e, nI_clamp (by omega), Int32.lt_iff_toInt_lt] at g2
        by_cases ca : c = a
        · subst ca; unfold bef; omega
        · have := hmin c (by omega) hm ca
          unfold bef at *; omega
    · rw [nO, if_neg g]
      refine ih _ _ (by omega) ?_
      rcases h with ⟨e, h0⟩ | ⟨a, av, e, ma, hmin⟩
      · refine Or.inl ⟨e, fun c hc => ?_⟩
        by_cases cv : c = v
        · subst cv
          cases hm : may c with
          | false => rfl
          | true => exact absurd ⟨hm, Or.inl e⟩ g
        · exact h0 c (by omega)
      · refine Or.inr ⟨a, by omega, e, ma, fun c hc hm hne => ?_⟩
        by_cases cv : c = v
        · subst cv
          have : ¬ fi c < fi a := by
            intro z
            exact g ⟨hm, Or.inr (by rw [e, nI_clamp (by omega)]; exact z)⟩
          rw [Int32.lt_iff_toInt_lt] at this
          unfold bef; omega
        · exact hmin c (by omega) hm hne
theorem nO_all (may : Nat → Bool) (fi : Nat → Int32) : (nO may fi 24 0 (-1) = -1 ∧ ∀ a, a < 24 → may a = false) ∨ ∃ a, a < 24 ∧ nO may fi 24 0 (-1) = nI a ∧ may a = true ∧ ∀ c, c < 24 → may c = true → c ≠ a → bef fi a c :=
  nO_ok 24 0 (-1) rfl (Or.inl ⟨rfl, fun a h => absurd h (Nat.not_lt_zero _)⟩)
end
section
/-! The model's search along the ways finds liveness. -/
def suc (kd : Nat → Int32) (tg : Nat → Nat) (t u : Nat) : Prop := (kd t = 7 ∧ u = tg t) ∨ (kd t = 8 ∧ (u = tg t ∨ u = t + 1)) ∨ (kd t ≠ 7 ∧ kd t ≠ 8 ∧ kd t ≠ 11 ∧ u = t + 1)
theorem li_nx_iff {kd : Nat → Int32} {tg : Nat → Nat} {g : Nat → Bool} {k : Nat} : li_nx kd tg g k = true ↔ ∃ u, suc kd tg k u ∧ g u = true := by
  unfold li_nx suc
  by_cases h7 : kd k = 7
  · rw [if_pos h7]
    constructor
    · intro z; exact ⟨_, Or.inl ⟨h7, rfl⟩, z⟩
    · rintro ⟨u, (⟨-, e⟩ | ⟨e, -⟩ | ⟨e, -⟩), z⟩
      · rw [← e]; exact z
      · rw [h7] at e; exact absurd e (by decide)
      · exact absurd h7 e
  · rw [if_neg h7]
    by_cases h8 : kd k = 8
    · rw [if_pos h8, Bool.or_eq_true]
      constructor
      · rintro (z | z)
        · exact ⟨_, Or.inr (Or.inl ⟨h8, Or.inl rfl⟩), z⟩
        · exact ⟨_, Or.inr (Or.inl ⟨h8, Or.inr rfl⟩), z⟩
      · rintro ⟨u, (⟨e, -⟩ | ⟨-, (e | e)⟩ | ⟨-, e, -⟩), z⟩
        · exact absurd e h7
        · rw [← e]; exact Or.inl z
        · rw [← e]; exact Or.inr z
        · exact absurd h8 e
    · rw [if_neg h8]
      by_cases h11 : kd k = 11
      · rw [if_pos h11]
        constructor
        · intro z; exact absurd z (by decide)
        · rintro ⟨u, (⟨e, -⟩ | ⟨e, -⟩ | ⟨-, -, e, -⟩), -⟩
          · exact absurd e h7
          · exact absurd e h8
          · exact absurd h11 e
      · rw [if_neg h11]
        constructor
        · intro z; exact ⟨_, Or.inr (Or.inr ⟨h7, h8, h11, rfl⟩), z⟩
        · rintro ⟨u, (⟨e, -⟩ | ⟨e, -⟩ | ⟨-, -, -, e⟩), z⟩
          · exact absurd e h7
          · exact absurd e h8
          · rw [← e]; exact z
theorem cnB_bd {g : Nat → Bool} {n : Nat} : ∀ N, (∀ t, t < N → g t = true → t < n) → cnB g N ≤ n := by
  intro N
  induction N with
  | zero => intro _; exact Nat.zero_le _
  | succ N ih =>
    intro h
    show cnB g N + _ ≤ n
    by_cases q : g N = true
    · have h1 := h N (by omega) q
      have h2 := cnB_le g N
      rw [if_pos q]; omega
    · rw [if_neg q]; exact ih fun t ht => h t (by omega)
theorem cnB_congr {g g' : Nat → Bool} : ∀ N, (∀ t, t < N → g t = g' t) → cnB g N = cnB g' N := by
  intro N
  induction N with
  | zero => intro _; rfl
  | succ N ih => intro h; show cnB g N + _ = cnB g' N + _; rw [ih fun t ht => h t (by omega), h N (by omega)]
theorem cnB_one {g g' : Nat → Bool} {u : Nat} (h1 : g u = false) (h2 : g' u = true) (h3 : ∀ t, t ≠ u → g' t = g t) : ∀ N, u < N → cnB g' N = cnB g N + 1 := by
  intro N
  induction N with
  | zero => intro h; exact absurd h (Nat.not_lt_zero _)
  | succ N ih =>
    intro h
    show cnB g' N + _ = cnB g N + _ + 1
    by_cases e : u = N
    · subst e
      rw [cnB_congr (g := g') (g' := g) u fun t ht => h3 t (by omega), h1, h2]
      rfl
    · rw [ih (by omega), h3 N (Ne.symm e)]; omega
section BFS
variable {n : Nat} {kd : Nat → Int32} {tg : Nat → Nat} {rd st : Nat → Bool} {fr : Nat}
/-- the search under way: the first i of the ways are done -/
def bfI (n : Nat) (kd : Nat → Int32) (tg : Nat → Nat) (rd st : Nat → Bool) (fr i ways : Nat) (wy sn : Nat → Int32) : Prop :=
  (∀ t, t < 61 → sn t = 0 ∨ sn t = 1) ∧ (∀ t, t < 61 → sn t = 1 → t < n) ∧ (∀ j, j < ways → ∃ t, t < n ∧ wy j = nI t ∧ sn t = 1) ∧ (∀ t, t < n → sn t = 1 → ∃ j, j < ways ∧ wy j = nI t) ∧
  ways = cnB (fun t => decide (sn t = 1)) 61 ∧ (∀ t, t < n → sn t = 1 → li_Live n kd tg rd st t → li_Live n kd tg rd st fr) ∧
  (∀ j, j < i → ∀ t, t < n → wy j = nI t → rd t = false ∧ (st t = true ∨ ∀ u, suc kd tg t u → u < n → sn u = 1)) ∧ i ≤ ways ∧ sn fr = 1
theorem bf_ways {i ways : Nat} {wy sn : Nat → Int32} (h : bfI n kd tg rd st fr i ways wy sn) : ways ≤ n := by
  obtain ⟨-, h2, -, -, h5, -⟩ := h
  rw [h5]
  exact cnB_bd 61 fun t ht z => h2 t ht (of_decide_eq_true z)
def gtS (n ways : Nat) (wy sn : Nat → Int32) (u : Nat) : Nat × (Nat → Int32) × (Nat → Int32) := if u < n ∧ sn u = 0 then (ways + 1, upd wy ways (nI u), upd sn u 1) else (ways, wy, sn)
theorem bf_go {i ways : Nat} {wy sn : Nat → Int32} (hn : n ≤ 60) (h : bfI n kd tg rd st fr i ways wy sn) {u : Nat} (hL : li_Live n kd tg rd st u → li_Live n kd tg rd st fr) :
    bfI n kd tg rd st fr i (gtS n ways wy sn u).1 (gtS n ways wy sn u).2.1 (gtS n ways wy sn u).2.2 ∧ (u < n → (gtS n ways wy sn u).2.2 u = 1) ∧ (∀ t, sn t = 1 → (gtS n ways wy sn u).2.2 t = 1) ∧ (∀ j, j < ways → (gtS n ways wy sn u).2.1 j = wy j) ∧ ways ≤ (gtS n ways wy sn u).1 := by
  unfold gtS
  by_cases q : u < n ∧ sn u = 0
  · rw [if_pos q]
    dsimp only
    obtain ⟨hu, h0⟩ := q
    obtain ⟨h1, h2, h3, h4, h5, h6, h7, h8, h9⟩ := h
    have un : ∀ t, t ≠ u → upd sn u 1 t = sn t := fun t ht => pk_un ht
    have up : ∀ t, sn t = 1 → upd sn u 1 t = 1 := by
      intro t ht
      by_cases e : t = u
      · subst e; exact pk_us
      · rw [un t e]; exact ht
    have wn : ∀ j, j < ways → upd wy ways (nI u) j = wy j := fun j hj => pk_un (by omega)
    refine ⟨⟨fun t ht => ?_, fun t ht z => ?_, fun j hj => ?_, fun t ht z => ?_, ?_, fun t ht z => ?_, fun j hj t ht e => ?_, by omega, up fr h9⟩, fun _ => pk_us, up, wn, by omega⟩
    · by_cases e : t = u
      · subst e; exact Or.inr pk_us
      · rw [un t e]; exact h1 t ht
    · by_cases e : t = u
      · subst e; exact hu
      · rw [un t e] at z; exact h2 t ht z
    · by_cases e : j = ways
      · subst e; exact ⟨u, hu, pk_us, pk_us⟩
      · obtain ⟨t, a, b, c⟩ := h3 j (by show j < ways; have : j < ways + 1 := hj; omega)
        exact ⟨t, a, (wn j (by have : j < ways + 1 := hj; omega)).trans b, up t c⟩
    · by_cases e : t = u
      · subst e; exact ⟨ways, Nat.lt_succ_self _, pk_us⟩
      · rw [un t e] at z
        obtain ⟨j, a, b⟩ := h4 t ht z
        exact ⟨j, Nat.lt_succ_of_lt a, (wn j a).trans b⟩
    · rw [h5]
      refine (cnB_one (u := u) (by rw [h0]; decide) (by rw [pk_us]; decide) (fun t ht => by rw [un t ht]) 61 (by omega)).symm
    · by_cases e : t = u
      · subst e; exact hL
      · rw [un t e] at z; exact h6 t ht z
    · rw [wn j (by omega)] at e
      obtain ⟨a, b⟩ := h7 j hj t ht e
      refine ⟨a, b.imp id fun b w hw hwn => up w (b w hw hwn)⟩
  · rw [if_neg q]
    refine ⟨h, fun hu => ?_, fun t z => z, fun j _ => rfl, Nat.le_refl _⟩
    rcases h.1 u (by omega) with z | z
    · exact absurd ⟨hu, z⟩ q
    · exact z
theorem bf_next {i ways : Nat} {wy sn : Nat → Int32} (hn : n ≤ 60) (h : bfI n kd tg rd st fr i ways wy sn) (hi : i < ways) {t : Nat} (ht : t < n) (e : wy i = nI t) (hr : rd t = false) (hs : st t = true ∨ ∀ u, suc kd tg t u → u < n → sn u = 1) : bfI n kd tg rd st fr (i + 1) ways wy sn := by
  obtain ⟨h1, h2, h3, h4, h5, h6, h7, h8, h9⟩ := h
  refine ⟨h1, h2, h3, h4, h5, h6, fun j hj t' ht' e' => ?_, hi, h9⟩
  by_cases q : j = i
  · subst q
    have : t' = t := nI_inj (by omega) (by omega) (e'.symm.trans e)
    subst this
    exact ⟨hr, hs⟩
  · exact h7 j (by omega) t' ht' e'
theorem bf_end {ways : Nat} {wy sn : Nat → Int32} (hf : fr < n) (h : bfI n kd tg rd st fr ways ways wy sn) : ¬ li_Live n kd tg rd st fr := by
  intro z
  obtain ⟨h1, h2, h3, h4, h5, h6, h7, h8, h9⟩ := h
  have key := li_fixL (g := fun k => decide (k < n ∧ ¬ sn k = 1)) (fun k hk => ?_) z
  · exact (of_decide_eq_true key).2 h9
  · obtain ⟨a, b⟩ := li_stp_iff.mp hk
    refine decide_eq_true ⟨a, fun hs => ?_⟩
    obtain ⟨j, hj, e⟩ := h4 k a hs
    obtain ⟨r, s⟩ := h7 j hj k a e
    rcases b with b | ⟨b, b2⟩
    · rw [r] at b; exact absurd b (by decide)
    · obtain ⟨u, su, gu⟩ := li_nx_iff.mp b
      rcases s with s | s
      · rw [s] at b2; exact absurd b2 (by decide)
      · exact (of_decide_eq_true gu).2 (s u su (of_decide_eq_true gu).1)
theorem bf_hit {i ways : Nat} {wy sn : Nat → Int32} (h : bfI n kd tg rd st fr i ways wy sn) {t : Nat} (ht : t < n) (hs : sn t = 1) (hr : rd t = true) : li_Live n kd tg rd st fr :=
  h.2.2.2.2.2.1 t ht hs ⟨1, li_stp_iff.mpr ⟨ht, Or.inl hr⟩⟩
theorem bf_suc {i ways : Nat} {wy sn : Nat → Int32} (h : bfI n kd tg rd st fr i ways wy sn) {t u : Nat} (ht : t < n) (hs : sn t = 1) (hst : st t = false) (hu : suc kd tg t u) : li_Live n kd tg rd st u → li_Live n kd tg rd st fr := by
  rintro ⟨j, hj⟩
  exact h.2.2.2.2.2.1 t ht hs ⟨j + 1, li_stp_iff.mpr ⟨ht, Or.inr ⟨li_nx_iff.mpr ⟨u, hu, hj⟩, hst⟩⟩⟩
theorem bf_0 (hn : n ≤ 60) (hf : fr < n) {wy sn : Nat → Int32} (h0 : ∀ t, t < 61 → sn t = 0) : bfI n kd tg rd st fr 0 1 (upd wy 0 (nI fr)) (upd sn fr 1) := by
  have un : ∀ t, t ≠ fr → upd sn fr 1 t = sn t := fun t ht => pk_un ht
  refine ⟨fun t ht => ?_, fun t ht z => ?_, fun j hj => ?_, fun t ht z => ?_, ?_, fun t ht z => ?_, fun j hj => absurd hj (Nat.not_lt_zero _), Nat.zero_le _, pk_us⟩
  · by_cases e : t = fr
    · subst e; exact Or.inr pk_us
    · rw [un t e]; exact Or.inl (h0 t ht)
  · by_cases e : t = fr
    · subst e; exact hf
    · rw [un t e, h0 t ht] at z; exact absurd z (by decide)
  · rw [show j = 0 by omega]; exact ⟨fr, hf, pk_us, pk_us⟩
  · by_cases e : t = fr
    · subst e; exact ⟨0, Nat.zero_lt_one, pk_us⟩
    · rw [un t e, h0 t (by omega)] at z; exact absurd z (by decide)
  · rw [cnB_one (g := fun t => decide (sn t = 1)) (u := fr) (by rw [h0 fr (by omega)]; decide) (by rw [pk_us]; decide) (fun t ht => by rw [un t ht]) 61 (by omega)]
    have : cnB (fun t => decide (sn t = 1)) 61 = cnB (fun _ => false) 61 := cnB_congr 61 fun t ht => by rw [h0 t ht]; decide
    rw [this]; decide
  · by_cases e : t = fr
    · subst e; exact id
    · rw [un t e, h0 t (by omega)] at z; exact absurd z (by decide)
end BFS
end
section
/-! Pure words for the class's machine. -/
def mA (f : Nat → Int32) (n : Nat) (i : Int32) : Int32 := if inB i n = true then f i.toNatClampNeg else 0
def rdM (rg sl mr ms : Nat → Int32) (v : Int32) : Int32 := if rO rg v = -1 then mA ms 24 (rO sl v) else mA mr 8 (rO rg v)
/-- what is set goes to the value's place: the registers' row, the slots' row -/
def wrM (rg sl mr ms : Nat → Int32) (v x : Int32) : (Nat → Int32) × (Nat → Int32) :=
  if inB (rO rg v) 8 = true then (upd mr (rO rg v).toNatClampNeg x, ms) else if inB (rO sl v) 24 = true then (mr, upd ms (rO sl v).toNatClampNeg x) else (mr, ms)
def rck (k x y : Int32) : Int32 := if k = 1 then x + y else if k = 2 then x - y else if k = 3 then x * y else if k = 4 then (if y ≤ x then 0 else 1) else if k = 5 then (if x < y then y else x) else x
end
section
def R_Row : String := "ScanMill$Row"
def T_Row : u_T := fun k => match k with
  | 0 => ("ScanMill$Row", "kinds", "[I", true)
  | 1 => ("ScanMill$Row", "as", "[I", true)
  | 2 => ("ScanMill$Row", "bs", "[I", true)
  | 3 => ("ScanMill$Row", "cs", "[I", true)
  | _ => ("ScanMill$Row", "count", "I", false)
def t_Row : Nat → FieldType := fun k => match k with
  | 0 => .array .int
  | 1 => .array .int
  | 2 => .array .int
  | 3 => .array .int
  | _ => .int
theorem n_Row : ∀ a, a < 5 → ∀ b, b < 5 → a ≠ b → (T_Row a).2.1 ≠ (T_Row b).2.1 := by decide +kernel
theorem t_Row_ok : ∀ k, k < 5 → parseFieldDescriptor (T_Row k).2.2.1 = some (t_Row k) := by decide +kernel
theorem i_Row : ∀ w ∈ u_ws R_Row T_Row 5, w ∈ wG := by decide +kernel
def R_Liv : String := "ScanMill$Liveness"
def T_Liv : u_T := fun k => match k with
  | 0 => ("ScanMill$Liveness", "ahead", "[I", true)
  | _ => ("ScanMill$Liveness", "stale", "Z", false)
def t_Liv : Nat → FieldType := fun k => match k with
  | 0 => .array .int
  | _ => .boolean
theorem n_Liv : ∀ a, a < 2 → ∀ b, b < 2 → a ≠ b → (T_Liv a).2.1 ≠ (T_Liv b).2.1 := by decide +kernel
theorem t_Liv_ok : ∀ k, k < 2 → parseFieldDescriptor (T_Liv k).2.2.1 = some (t_Liv k) := by decide +kernel
theorem i_Liv : ∀ w ∈ u_ws R_Liv T_Liv 2, w ∈ wG := by decide +kernel
def R_Plc : String := "ScanMill$Places"
def T_Plc : u_T := fun k => match k with
  | 0 => ("ScanMill$Places", "firsts", "[I", true)
  | 1 => ("ScanMill$Places", "lasts", "[I", true)
  | 2 => ("ScanMill$Places", "overCall", "[Z", true)
  | 3 => ("ScanMill$Places", "registers", "[I", true)
  | 4 => ("ScanMill$Places", "slots", "[I", true)
  | 5 => ("ScanMill$Places", "order", "[I", true)
  | 6 => ("ScanMill$Places", "registerHolders", "[I", true)
  | 7 => ("ScanMill$Places", "slotHolders", "[I", true)
  | 8 => ("ScanMill$Places", "ordered", "I", false)
  | 9 => ("ScanMill$Places", "registerCount", "I", false)
  | _ => ("ScanMill$Places", "slotCount", "I", false)
def t_Plc : Nat → FieldType := fun k => match k with
  | 0 => .array .int
  | 1 => .array .int
  | 2 => .array .boolean
  | 3 => .array .int
  | 4 => .array .int
  | 5 => .array .int
  | 6 => .array .int
  | 7 => .array .int
  | 8 => .int
  | 9 => .int
  | _ => .int
theorem n_Plc : ∀ a, a < 11 → ∀ b, b < 11 → a ≠ b → (T_Plc a).2.1 ≠ (T_Plc b).2.1 := by decide +kernel
theorem t_Plc_ok : ∀ k, k < 11 → parseFieldDescriptor (T_Plc k).2.2.1 = some (t_Plc k) := by decide +kernel
theorem i_Plc : ∀ w ∈ u_ws R_Plc T_Plc 11, w ∈ wG := by decide +kernel
def R_Mac : String := "ScanMill$Machine"
def T_Mac : u_T := fun k => match k with
  | 0 => ("ScanMill$Machine", "registers", "[I", true)
  | 1 => ("ScanMill$Machine", "slots", "[I", true)
  | 2 => ("ScanMill$Machine", "outputs", "[I", true)
  | 3 => ("ScanMill$Machine", "next", "I", false)
  | 4 => ("ScanMill$Machine", "steps", "I", false)
  | 5 => ("ScanMill$Machine", "calls", "I", false)
  | _ => ("ScanMill$Machine", "putOut", "I", false)
def t_Mac : Nat → FieldType := fun k => match k with
  | 0 => .array .int
  | 1 => .array .int
  | 2 => .array .int
  | 3 => .int
  | 4 => .int
  | 5 => .int
  | _ => .int
theorem n_Mac : ∀ a, a < 7 → ∀ b, b < 7 → a ≠ b → (T_Mac a).2.1 ≠ (T_Mac b).2.1 := by decide +kernel
theorem t_Mac_ok : ∀ k, k < 7 → parseFieldDescriptor (T_Mac k).2.2.1 = some (t_Mac k) := by decide +kernel
theorem i_Mac : ∀ w ∈ u_ws R_Mac T_Mac 7, w ∈ wG := by decide +kernel
def R_Mill : String := "ScanMill"
def T_Mill : u_T := fun k => match k with
  | 0 => ("ScanMill", "row", "LScanMill$Row;", true)
  | 1 => ("ScanMill", "liveness", "LScanMill$Liveness;", true)
  | 2 => ("ScanMill", "places", "LScanMill$Places;", true)
  | 3 => ("ScanMill", "machine", "LScanMill$Machine;", true)
  | 4 => ("ScanMill", "registersWanted", "I", false)
  | 5 => ("ScanMill", "scanned", "Z", false)
  | _ => ("ScanMill", "running", "Z", false)
def t_Mill : Nat → FieldType := fun k => match k with
  | 0 => .object "ScanMill$Row"
  | 1 => .object "ScanMill$Liveness"
  | 2 => .object "ScanMill$Places"
  | 3 => .object "ScanMill$Machine"
  | 4 => .int
  | 5 => .boolean
  | _ => .boolean
theorem n_Mill : ∀ a, a < 7 → ∀ b, b < 7 → a ≠ b → (T_Mill a).2.1 ≠ (T_Mill b).2.1 := by decide +kernel
theorem t_Mill_ok : ∀ k, k < 7 → parseFieldDescriptor (T_Mill k).2.2.1 = some (t_Mill k) := by decide +kernel
theorem i_Mill : ∀ w ∈ u_ws R_Mill T_Mill 7, w ∈ wG := by decide +kernel
def R_Mod : String := "ScanMillModel"
def T_Mod : u_T := fun k => match k with
  | 0 => ("ScanMillModel", "thrown", "I", false)
  | 1 => ("ScanMillModel", "ops", "I", false)
  | 2 => ("ScanMillModel", "kind", "[I", true)
  | 3 => ("ScanMillModel", "a", "[I", true)
  | 4 => ("ScanMillModel", "b", "[I", true)
  | 5 => ("ScanMillModel", "c", "[I", true)
  | 6 => ("ScanMillModel", "wanted", "I", false)
  | 7 => ("ScanMillModel", "isScanned", "Z", false)
  | 8 => ("ScanMillModel", "registers", "I", false)
  | 9 => ("ScanMillModel", "slots", "I", false)
  | 10 => ("ScanMillModel", "first", "[I", true)
  | 11 => ("ScanMillModel", "last", "[I", true)
  | 12 => ("ScanMillModel", "is", "[Z", true)
  | 13 => ("ScanMillModel", "over", "[Z", true)
  | 14 => ("ScanMillModel", "register", "[I", true)
  | 15 => ("ScanMillModel", "slot", "[I", true)
  | 16 => ("ScanMillModel", "holder", "[I", true)
  | 17 => ("ScanMillModel", "state", "I", false)
  | 18 => ("ScanMillModel", "next", "I", false)
  | 19 => ("ScanMillModel", "steps", "I", false)
  | 20 => ("ScanMillModel", "calls", "I", false)
  | 21 => ("ScanMillModel", "outs", "I", false)
  | 22 => ("ScanMillModel", "output", "[I", true)
  | 23 => ("ScanMillModel", "inRegister", "[I", true)
  | 24 => ("ScanMillModel", "inSlot", "[I", true)
  | 25 => ("ScanMillModel", "ways", "I", false)
  | 26 => ("ScanMillModel", "way", "[I", true)
  | 27 => ("ScanMillModel", "seen", "[Z", true)
  | _ => ("ScanMillModel", "gone", "[Z", true)
def t_Mod : Nat → FieldType := fun k => match k with
  | 0 => .int
  | 1 => .int
  | 2 => .array .int
  | 3 => .array .int
  | 4 => .array .int
  | 5 => .array .int
  | 6 => .int
  | 7 => .boolean
  | 8 => .int
  | 9 => .int
  | 10 => .array .int
  | 11 => .array .int
  | 12 => .array .boolean
  | 13 => .array .boolean
  | 14 => .array .int
  | 15 => .array .int
  | 16 => .array .int
  | 17 => .int
  | 18 => .int
  | 19 => .int
  | 20 => .int
  | 21 => .int
  | 22 => .array .int
  | 23 => .array .int
  | 24 => .array .int
  | 25 => .int
  | 26 => .array .int
  | 27 => .array .boolean
  | _ => .array .boolean
theorem n_Mod : ∀ a, a < 29 → ∀ b, b < 29 → a ≠ b → (T_Mod a).2.1 ≠ (T_Mod b).2.1 := by decide +kernel
theorem t_Mod_ok : ∀ k, k < 29 → parseFieldDescriptor (T_Mod k).2.2.1 = some (t_Mod k) := by decide +kernel
theorem i_Mod : ∀ w ∈ u_ws R_Mod T_Mod 29, w ∈ wG := by decide +kernel
abbrev smC : List vw_C := [(R_Row, T_Row, 5), (R_Liv, T_Liv, 2), (R_Plc, T_Plc, 11), (R_Mac, T_Mac, 7), (R_Mill, T_Mill, 7), (R_Mod, T_Mod, 29)]
abbrev y_Mill_isValue : MethodName := ⟨"ScanMill", "isValue", "(I)Z"⟩
theorem d_Mill_isValue_0 : decode prog_1_method_18_code 0 = .ok (.iload_n 0, 1) := by decide +kernel
theorem d_Mill_isValue_1 : decode prog_1_method_18_code 1 = .ok (.ifCond .lt 13, 3) := by decide +kernel
theorem d_Mill_isValue_14 : decode prog_1_method_18_code 14 = .ok (.iconst 0, 1) := by decide +kernel
theorem d_Mill_isValue_15 : decode prog_1_method_18_code 15 = .ok (.ireturn, 1) := by decide +kernel
theorem d_Mill_isValue_4 : decode prog_1_method_18_code 4 = .ok (.iload_n 0, 1) := by decide +kernel
theorem d_Mill_isValue_5 : decode prog_1_method_18_code 5 = .ok (.bipush 24, 2) := by decide +kernel
theorem d_Mill_isValue_7 : decode prog_1_method_18_code 7 = .ok (.if_icmp .ge 7, 3) := by decide +kernel
theorem d_Mill_isValue_10 : decode prog_1_method_18_code 10 = .ok (.iconst 1, 1) := by decide +kernel
theorem d_Mill_isValue_11 : decode prog_1_method_18_code 11 = .ok (.goto 4, 3) := by decide +kernel
set_option maxRecDepth 100000 in
set_option maxHeartbeats 4000000 in
theorem c_Mill_isValue {l : Launch} {dC : Nat → ClassId} {dI : Nat → Nat → Nat} {cI cZ : ClassId} {v : Int32}  : sm_I l y_Mill_isValue prog_1_method_18_code 1 (some .boolean) (rmF 0 0) (dC, dI) smC [(cI, .int), (cZ, .boolean)] [.int v] [] (fun q w2 => q = (b2i (inB v 24)) ∧ w2 = []) := by
  refine sm_I.mk (by decide) (Nat.le_of_ble_eq_true rfl) ?_
  intro p e s m below meth c A H locs ls hx hb hr ht hown hlocks hml hnm hP hK hD hA hS hN hl
  have hl : lv_has ls 1 [(0, .int v)] := hl
  refine lv_iload_n hx hb d_Mill_isValue_0 rfl (lv_at hl 0 rfl) ?_
  refine lv_if_lt (tgt := 14) hx hb d_Mill_isValue_1 (by decide) (fun c_1 => ?_) (fun c_1 => ?_)
  · skip
    refine lv_iconst (v := 0) hx hb d_Mill_isValue_14 (by decide) ?_
    refine sm_rz (v := (0 : Int32)) (ws := []) hx hb hr hlocks hK (hP.sub [] rfl) (hD.sub [] (by decide) rfl) hS (by decide) ?_ d_Mill_isValue_15
    exact ⟨by rw [in_lo c_1]; rfl, rfl⟩
  · skip
    refine lv_iload_n hx hb d_Mill_isValue_4 rfl (lv_at hl 0 rfl) ?_
    refine lv_bipush (v := 24) hx hb d_Mill_isValue_5 (by decide) ?_
    refine lv_icmp_ge (tgt := 14) hx hb d_Mill_isValue_7 (by decide) (fun c_7 => ?_) (fun c_7 => ?_)
    · skip
      refine lv_iconst (v := 0) hx hb d_Mill_isValue_14 (by decide) ?_
      refine sm_rz (v := (0 : Int32)) (ws := []) hx hb hr hlocks hK (hP.sub [] rfl) (hD.sub [] (by decide) rfl) hS (by decide) ?_ d_Mill_isValue_15
      exact ⟨by rw [in_hi (M := 24) (by decide) c_7]; rfl, rfl⟩
    · skip
      refine lv_iconst (v := 1) hx hb d_Mill_isValue_10 (by decide) ?_
      refine lv_goto (tgt := 15) hx hb d_Mill_isValue_11 (by decide) ?_
      refine sm_rz (v := (1 : Int32)) (ws := []) hx hb hr hlocks hK (hP.sub [] rfl) (hD.sub [] (by decide) rfl) hS (by decide) ?_ d_Mill_isValue_15
      exact ⟨by rw [in_ge (M := 24) (by decide) c_1 c_7]; rfl, rfl⟩
abbrev y_Mill_isTarget : MethodName := ⟨"ScanMill", "isTarget", "(I)Z"⟩
theorem d_Mill_isTarget_0 : decode prog_1_method_19_code 0 = .ok (.iload_n 0, 1) := by decide +kernel
theorem d_Mill_isTarget_1 : decode prog_1_method_19_code 1 = .ok (.ifCond .lt 13, 3) := by decide +kernel
theorem d_Mill_isTarget_14 : decode prog_1_method_19_code 14 = .ok (.iconst 0, 1) := by decide +kernel
theorem d_Mill_isTarget_15 : decode prog_1_method_19_code 15 = .ok (.ireturn, 1) := by decide +kernel
theorem d_Mill_isTarget_4 : decode prog_1_method_19_code 4 = .ok (.iload_n 0, 1) := by decide +kernel
theorem d_Mill_isTarget_5 : decode prog_1_method_19_code 5 = .ok (.bipush 60, 2) := by decide +kernel
theorem d_Mill_isTarget_7 : decode prog_1_method_19_code 7 = .ok (.if_icmp .gt 7, 3) := by decide +kernel
theorem d_Mill_isTarget_10 : decode prog_1_method_19_code 10 = .ok (.iconst 1, 1) := by decide +kernel
theorem d_Mill_isTarget_11 : decode prog_1_method_19_code 11 = .ok (.goto 4, 3) := by decide +kernel
set_option maxRecDepth 100000 in
set_option maxHeartbeats 4000000 in
theorem c_Mill_isTarget {l : Launch} {dC : Nat → ClassId} {dI : Nat → Nat → Nat} {cI cZ : ClassId} {v : Int32}  : sm_I l y_Mill_isTarget prog_1_method_19_code 1 (some .boolean) (rmF 0 0) (dC, dI) smC [(cI, .int), (cZ, .boolean)] [.int v] [] (fun q w2 => q = (b2i (inB v 61)) ∧ w2 = []) := by
  refine sm_I.mk (by decide) (Nat.le_of_ble_eq_true rfl) ?_
  intro p e s m below meth c A H locs ls hx hb hr ht hown hlocks hml hnm hP hK hD hA hS hN hl
  have hl : lv_has ls 1 [(0, .int v)] := hl
  refine lv_iload_n hx hb d_Mill_isTarget_0 rfl (lv_at hl 0 rfl) ?_
  refine lv_if_lt (tgt := 14) hx hb d_Mill_isTarget_1 (by decide) (fun c_1 => ?_) (fun c_1 => ?_)
  · skip
    refine lv_iconst (v := 0) hx hb d_Mill_isTarget_14 (by decide) ?_
    refine sm_rz (v := (0 : Int32)) (ws := []) hx hb hr hlocks hK (hP.sub [] rfl) (hD.sub [] (by decide) rfl) hS (by decide) ?_ d_Mill_isTarget_15
    exact ⟨by rw [in_lo c_1]; rfl, rfl⟩
  · skip
    refine lv_iload_n hx hb d_Mill_isTarget_4 rfl (lv_at hl 0 rfl) ?_
    refine lv_bipush (v := 60) hx hb d_Mill_isTarget_5 (by decide) ?_
    refine lv_icmp_gt (tgt := 14) hx hb d_Mill_isTarget_7 (by decide) (fun c_7 => ?_) (fun c_7 => ?_)
    · skip
      refine lv_iconst (v := 0) hx hb d_Mill_isTarget_14 (by decide) ?_
      refine sm_rz (v := (0 : Int32)) (ws := []) hx hb hr hlocks hK (hP.sub [] rfl) (hD.sub [] (by decide) rfl) hS (by decide) ?_ d_Mill_isTarget_15
      exact ⟨by rw [in_hg (M := 60) (by decide) c_7]; rfl, rfl⟩
    · skip
      refine lv_iconst (v := 1) hx hb d_Mill_isTarget_10 (by decide) ?_
      refine lv_goto (tgt := 15) hx hb d_Mill_isTarget_11 (by decide) ?_
      refine sm_rz (v := (1 : Int32)) (ws := []) hx hb hr hlocks hK (hP.sub [] rfl) (hD.sub [] (by decide) rfl) hS (by decide) ?_ d_Mill_isTarget_15
      exact ⟨by rw [in_gt (M := 60) (by decide) c_1 c_7]; rfl, rfl⟩
abbrev y_Mill_placeOrNoAnswer : MethodName := ⟨"ScanMill", "placeOrNoAnswer", "(I)I"⟩
theorem d_Mill_placeOrNoAnswer_0 : decode prog_1_method_17_code 0 = .ok (.iload_n 0, 1) := by decide +kernel
theorem d_Mill_placeOrNoAnswer_1 : decode prog_1_method_17_code 1 = .ok (.iconst (-1), 1) := by decide +kernel
theorem d_Mill_placeOrNoAnswer_2 : decode prog_1_method_17_code 2 = .ok (.if_icmp .ne 8, 3) := by decide +kernel
theorem d_Mill_placeOrNoAnswer_10 : decode prog_1_method_17_code 10 = .ok (.iload_n 0, 1) := by decide +kernel
theorem d_Mill_placeOrNoAnswer_11 : decode prog_1_method_17_code 11 = .ok (.ireturn, 1) := by decide +kernel
theorem d_Mill_placeOrNoAnswer_5 : decode prog_1_method_17_code 5 = .ok (.bipush (-9), 2) := by decide +kernel
theorem d_Mill_placeOrNoAnswer_7 : decode prog_1_method_17_code 7 = .ok (.goto 4, 3) := by decide +kernel
set_option maxRecDepth 100000 in
set_option maxHeartbeats 4000000 in
theorem c_Mill_placeOrNoAnswer {l : Launch} {dC : Nat → ClassId} {dI : Nat → Nat → Nat} {cI cZ : ClassId} {v : Int32}  : sm_I l y_Mill_placeOrNoAnswer prog_1_method_17_code 1 (some .int) (rmF 0 0) (dC, dI) smC [(cI, .int), (cZ, .boolean)] [.int v] [] (fun q w2 => q = (if v = -1 then -9 else v) ∧ w2 = []) := by
  refine sm_I.mk (by decide) (Nat.le_of_ble_eq_true rfl) ?_
  intro p e s m below meth c A H locs ls hx hb hr ht hown hlocks hml hnm hP hK hD hA hS hN hl
  have hl : lv_has ls 1 [(0, .int v)] := hl
  refine lv_iload_n hx hb d_Mill_placeOrNoAnswer_0 rfl (lv_at hl 0 rfl) ?_
  refine lv_iconst (v := -1) hx hb d_Mill_placeOrNoAnswer_1 (by decide) ?_
  refine lv_icmp_ne (tgt := 10) hx hb d_Mill_placeOrNoAnswer_2 (by decide) (fun c_2 => ?_) (fun c_2 => ?_)
  · skip
    refine lv_iload_n hx hb d_Mill_placeOrNoAnswer_10 rfl (lv_at hl 0 rfl) ?_
    refine sm_ri (v := v) (ws := []) hx hb hr hlocks hK (hP.sub [] rfl) (hD.sub [] (by decide) rfl) hS ?_ d_Mill_placeOrNoAnswer_11
    exact ⟨by simp [c_2], rfl⟩
  · skip
    refine lv_bipush (v := -9) hx hb d_Mill_placeOrNoAnswer_5 (by decide) ?_
    refine lv_goto (tgt := 11) hx hb d_Mill_placeOrNoAnswer_7 (by decide) ?_
    refine sm_ri (v := (-9 : Int32)) (ws := []) hx hb hr hlocks hK (hP.sub [] rfl) (hD.sub [] (by decide) rfl) hS ?_ d_Mill_placeOrNoAnswer_11
    exact ⟨by simp [c_2], rfl⟩
abbrev y_Row_size : MethodName := ⟨"ScanMill$Row", "size", "()I"⟩
theorem d_Row_size_0 : decode prog_5_method_2_code 0 = .ok (.aload_n 0, 1) := by decide +kernel
theorem d_Row_size_1 : decode prog_5_method_2_code 1 = .ok (.getfield 24, 3) := by decide +kernel
theorem mw_33 : Cond.fieldLink "ScanMill$Row" 24 "ScanMill$Row" "count" "I" ∈ wG := wG_t 33 (by decide +kernel) (by decide +kernel)
theorem d_Row_size_4 : decode prog_5_method_2_code 4 = .ok (.ireturn, 1) := by decide +kernel
set_option maxRecDepth 100000 in
set_option maxHeartbeats 4000000 in
theorem c_Row_size {l : Launch} {dC : Nat → ClassId} {dI : Nat → Nat → Nat} {cI cZ : ClassId} {r rk ra rb rc n : Nat} {fk fa fb fc : Nat → Int32}  : sm_I l y_Row_size prog_5_method_2_code 1 (some .int) (rmF 0 0) (dC, dI) smC [(cI, .int), (cZ, .boolean)] [.ref r] [(r, .inr (0, [.ref rk, .ref ra, .ref rb, .ref rc, .int (nI n)])), (rk, .inl (cI, 60, .inl fk)), (ra, .inl (cI, 60, .inl fa)), (rb, .inl (cI, 60, .inl fb)), (rc, .inl (cI, 60, .inl fc))] (fun q w2 => q = (nI n) ∧ w2 = [(r, .inr (0, [.ref rk, .ref ra, .ref rb, .ref rc, .int (nI n)])), (rk, .inl (cI, 60, .inl fk)), (ra, .inl (cI, 60, .inl fa)), (rb, .inl (cI, 60, .inl fb)), (rc, .inl (cI, 60, .inl fc))]) := by
  refine sm_I.mk (by decide) (Nat.le_of_ble_eq_true rfl) ?_
  intro p e s m below meth c A H locs ls hx hb hr ht hown hlocks hml hnm hP hK hD hA hS hN hl
  have hl : lv_has ls 1 [(0, .ref r)] := hl
  refine lv_aload_n hx hb d_Row_size_0 rfl (lv_at hl 0 rfl) ?_
  refine va_get (D := (dC, dI)) (ci := 0) (v := .int (nI n)) (C := R_Row) (T := T_Row) (N := 5) hx hb ht i_Row hown hK hP 0 rfl rfl 4 (by decide) (ht _ mw_33) (fun _ h9 => h9) rfl d_Row_size_1 ?_
  refine sm_ri (v := nI n) (ws := [(r, .inr (0, [.ref rk, .ref ra, .ref rb, .ref rc, .int (nI n)])), (rk, .inl (cI, 60, .inl fk)), (ra, .inl (cI, 60, .inl fa)), (rb, .inl (cI, 60, .inl fb)), (rc, .inl (cI, 60, .inl fc))]) hx hb hr hlocks hK (hP.sub [0, 1, 2, 3, 4] rfl) (hD.sub [0, 1, 2, 3, 4] (by decide) rfl) hS ?_ d_Row_size_4
  exact ⟨rfl, rfl⟩
abbrev y_Row_empty : MethodName := ⟨"ScanMill$Row", "empty", "()V"⟩
theorem d_Row_empty_0 : decode prog_5_method_3_code 0 = .ok (.aload_n 0, 1) := by decide +kernel
theorem d_Row_empty_1 : decode prog_5_method_3_code 1 = .ok (.iconst 0, 1) := by decide +kernel
theorem d_Row_empty_2 : decode prog_5_method_3_code 2 = .ok (.putfield 24, 3) := by decide +kernel
theorem d_Row_empty_5 : decode prog_5_method_3_code 5 = .ok (.return_, 1) := by decide +kernel
set_option maxRecDepth 100000 in
set_option maxHeartbeats 4000000 in
theorem c_Row_empty {l : Launch} {dC : Nat → ClassId} {dI : Nat → Nat → Nat} {cI cZ : ClassId} {r rk ra rb rc n : Nat} {fk fa fb fc : Nat → Int32}  : sm_V l y_Row_empty prog_5_method_3_code 1 none (rmF 0 0) (dC, dI) smC [(cI, .int), (cZ, .boolean)] [.ref r] [(r, .inr (0, [.ref rk, .ref ra, .ref rb, .ref rc, .int (nI n)])), (rk, .inl (cI, 60, .inl fk)), (ra, .inl (cI, 60, .inl fa)), (rb, .inl (cI, 60, .inl fb)), (rc, .inl (cI, 60, .inl fc))] (fun w2 => w2 = [(r, .inr (0, [.ref rk, .ref ra, .ref rb, .ref rc, .int ((0 : Int32))])), (rk, .inl (cI, 60, .inl fk)), (ra, .inl (cI, 60, .inl fa)), (rb, .inl (cI, 60, .inl fb)), (rc, .inl (cI, 60, .inl fc))]) := by
  refine sm_V.mk (by decide) (Nat.le_of_ble_eq_true rfl) ?_
  intro p e s m below meth c A H locs ls hx hb hr ht hown hlocks hml hnm hP hK hD hA hS hN hl
  have hl : lv_has ls 1 [(0, .ref r)] := hl
  refine lv_aload_n hx hb d_Row_empty_0 rfl (lv_at hl 0 rfl) ?_
  refine lv_iconst (v := 0) hx hb d_Row_empty_1 (by decide) ?_
  refine va_put (D := (dC, dI)) (ci := 0) (v := .int ((0 : Int32))) (ty := .int) (C := R_Row) (T := T_Row) (N := 5) hx hb ht i_Row t_Row t_Row_ok n_Row hown hK hP hD hS 0 rfl rfl 4 (by decide) (ht _ mw_33) (fun _ h9 => h9) rfl (by decide +kernel) rfl rfl (Nat.le_of_ble_eq_true rfl) d_Row_empty_2 (fun H locs hP hD hS => ?_)
  have hP : va_P (dC, dI) smC [(r, .inr (0, [.ref rk, .ref ra, .ref rb, .ref rc, .int ((0 : Int32))])), (rk, .inl (cI, 60, .inl fk)), (ra, .inl (cI, 60, .inl fa)), (rb, .inl (cI, 60, .inl fb)), (rc, .inl (cI, 60, .inl fc))] H := hP
  have hD : va_D A [(r, .inr (0, [.ref rk, .ref ra, .ref rb, .ref rc, .int ((0 : Int32))])), (rk, .inl (cI, 60, .inl fk)), (ra, .inl (cI, 60, .inl fa)), (rb, .inl (cI, 60, .inl fb)), (rc, .inl (cI, 60, .inl fc))] := hD
  refine sm_rv (ws := [(r, .inr (0, [.ref rk, .ref ra, .ref rb, .ref rc, .int ((0 : Int32))])), (rk, .inl (cI, 60, .inl fk)), (ra, .inl (cI, 60, .inl fa)), (rb, .inl (cI, 60, .inl fb)), (rc, .inl (cI, 60, .inl fc))]) hx hb hr hlocks hK (hP.sub [0, 1, 2, 3, 4] rfl) (hD.sub [0, 1, 2, 3, 4] (by decide) rfl) hS ?_ d_Row_empty_5
  rfl
abbrev y_Row_holds : MethodName := ⟨"ScanMill$Row", "holds", "(I)Z"⟩
theorem d_Row_holds_0 : decode prog_5_method_11_code 0 = .ok (.iload_n 1, 1) := by decide +kernel
theorem d_Row_holds_1 : decode prog_5_method_11_code 1 = .ok (.ifCond .lt 15, 3) := by decide +kernel
theorem d_Row_holds_16 : decode prog_5_method_11_code 16 = .ok (.iconst 0, 1) := by decide +kernel
theorem d_Row_holds_17 : decode prog_5_method_11_code 17 = .ok (.ireturn, 1) := by decide +kernel
theorem d_Row_holds_4 : decode prog_5_method_11_code 4 = .ok (.iload_n 1, 1) := by decide +kernel
theorem d_Row_holds_5 : decode prog_5_method_11_code 5 = .ok (.aload_n 0, 1) := by decide +kernel
theorem d_Row_holds_6 : decode prog_5_method_11_code 6 = .ok (.getfield 24, 3) := by decide +kernel
theorem d_Row_holds_9 : decode prog_5_method_11_code 9 = .ok (.if_icmp .ge 7, 3) := by decide +kernel
theorem d_Row_holds_12 : decode prog_5_method_11_code 12 = .ok (.iconst 1, 1) := by decide +kernel
theorem d_Row_holds_13 : decode prog_5_method_11_code 13 = .ok (.goto 4, 3) := by decide +kernel
set_option maxRecDepth 100000 in
set_option maxHeartbeats 4000000 in
theorem c_Row_holds {l : Launch} {dC : Nat → ClassId} {dI : Nat → Nat → Nat} {cI cZ : ClassId} {r rk ra rb rc n : Nat} {fk fa fb fc : Nat → Int32} {k : Int32} (hn : n ≤ 60) : sm_I l y_Row_holds prog_5_method_11_code 2 (some .boolean) (rmF 0 0) (dC, dI) smC [(cI, .int), (cZ, .boolean)] [.ref r, .int k] [(r, .inr (0, [.ref rk, .ref ra, .ref rb, .ref rc, .int (nI n)])), (rk, .inl (cI, 60, .inl fk)), (ra, .inl (cI, 60, .inl fa)), (rb, .inl (cI, 60, .inl fb)), (rc, .inl (cI, 60, .inl fc))] (fun q w2 => q = (b2i (inB k n)) ∧ w2 = [(r, .inr (0, [.ref rk, .ref ra, .ref rb, .ref rc, .int (nI n)])), (rk, .inl (cI, 60, .inl fk)), (ra, .inl (cI, 60, .inl fa)), (rb, .inl (cI, 60, .inl fb)), (rc, .inl (cI, 60, .inl fc))]) := by
  refine sm_I.mk (by decide) (Nat.le_of_ble_eq_true rfl) ?_
  intro p e s m below meth c A H locs ls hx hb hr ht hown hlocks hml hnm hP hK hD hA hS hN hl
  have hl : lv_has ls 2 [(0, .ref r), (1, .int k)] := hl
  refine lv_iload_n hx hb d_Row_holds_0 rfl (lv_at hl 1 rfl) ?_
  refine lv_if_lt (tgt := 16) hx hb d_Row_holds_1 (by decide) (fun c_1 => ?_) (fun c_1 => ?_)
  · skip
    refine lv_iconst (v := 0) hx hb d_Row_holds_16 (by decide) ?_
    refine sm_rz (v := (0 : Int32)) (ws := [(r, .inr (0, [.ref rk, .ref ra, .ref rb, .ref rc, .int (nI n)])), (rk, .inl (cI, 60, .inl fk)), (ra, .inl (cI, 60, .inl fa)), (rb, .inl (cI, 60, .inl fb)), (rc, .inl (cI, 60, .inl fc))]) hx hb hr hlocks hK (hP.sub [0, 1, 2, 3, 4] rfl) (hD.sub [0, 1, 2, 3, 4] (by decide) rfl) hS (by decide) ?_ d_Row_holds_17
    exact ⟨by rw [in_lo c_1]; rfl, rfl⟩
  · skip
    refine lv_iload_n hx hb d_Row_holds_4 rfl (lv_at hl 1 rfl) ?_
    refine lv_aload_n hx hb d_Row_holds_5 rfl (lv_at hl 0 rfl) ?_
    refine va_get (D := (dC, dI)) (ci := 0) (v := .int (nI n)) (C := R_Row) (T := T_Row) (N := 5) hx hb ht i_Row hown hK hP 0 rfl rfl 4 (by decide) (ht _ mw_33) (fun _ h9 => h9) rfl d_Row_holds_6 ?_
    refine lv_icmp_ge (tgt := 16) hx hb d_Row_holds_9 (by decide) (fun c_9 => ?_) (fun c_9 => ?_)
    · skip
      refine lv_iconst (v := 0) hx hb d_Row_holds_16 (by decide) ?_
      refine sm_rz (v := (0 : Int32)) (ws := [(r, .inr (0, [.ref rk, .ref ra, .ref rb, .ref rc, .int (nI n)])), (rk, .inl (cI, 60, .inl fk)), (ra, .inl (cI, 60, .inl fa)), (rb, .inl (cI, 60, .inl fb)), (rc, .inl (cI, 60, .inl fc))]) hx hb hr hlocks hK (hP.sub [0, 1, 2, 3, 4] rfl) (hD.sub [0, 1, 2, 3, 4] (by decide) rfl) hS (by decide) ?_ d_Row_holds_17
      exact ⟨by rw [in_hi (M := nI n) (nI_toInt (by omega)) c_9]; rfl, rfl⟩
    · skip
      refine lv_iconst (v := 1) hx hb d_Row_holds_12 (by decide) ?_
      refine lv_goto (tgt := 17) hx hb d_Row_holds_13 (by decide) ?_
      refine sm_rz (v := (1 : Int32)) (ws := [(r, .inr (0, [.ref rk, .ref ra, .ref rb, .ref rc, .int (nI n)])), (rk, .inl (cI, 60, .inl fk)), (ra, .inl (cI, 60, .inl fa)), (rb, .inl (cI, 60, .inl fb)), (rc, .inl (cI, 60, .inl fc))]) hx hb hr hlocks hK (hP.sub [0, 1, 2, 3, 4] rfl) (hD.sub [0, 1, 2, 3, 4] (by decide) rfl) hS (by decide) ?_ d_Row_holds_17
      exact ⟨by rw [in_ge (M := nI n) (nI_toInt (by omega)) c_1 c_9]; rfl, rfl⟩
abbrev y_Row_kindAt : MethodName := ⟨"ScanMill$Row", "kindAt", "(I)I"⟩
theorem d_Row_kindAt_0 : decode prog_5_method_5_code 0 = .ok (.aload_n 0, 1) := by decide +kernel
theorem d_Row_kindAt_1 : decode prog_5_method_5_code 1 = .ok (.iload_n 1, 1) := by decide +kernel
theorem d_Row_kindAt_2 : decode prog_5_method_5_code 2 = .ok (.invokevirtual 32, 3) := by decide +kernel
theorem mw_221 : Cond.code ⟨"ScanMill$Row", "holds", "(I)Z"⟩ prog_5_method_11_code 2 (Option.some FieldType.boolean) ∈ wG := wG_t 221 (by decide +kernel) (by decide +kernel)
theorem mw_2 : Cond.initialized "ScanMill$Row" ∈ wG := wG_t 2 (by decide +kernel) (by decide +kernel)
theorem mw_218 : Cond.methodLink "ScanMill$Row" 32 ⟨"ScanMill$Row", "holds", "(I)Z"⟩ ∈ wG := wG_t 218 (by decide +kernel) (by decide +kernel)
theorem mw_220 : Cond.instanceMethod ⟨"ScanMill$Row", "holds", "(I)Z"⟩ ∈ wG := wG_t 220 (by decide +kernel) (by decide +kernel)
theorem mp_2 : Cond.selects "ScanMill$Row" ⟨"ScanMill$Row", "holds", "(I)Z"⟩ ⟨"ScanMill$Row", "holds", "(I)Z"⟩ ∈ wG := wG_p 2 (by decide +kernel) (by decide +kernel)
theorem d_Row_kindAt_5 : decode prog_5_method_5_code 5 = .ok (.ifCond .eq 12, 3) := by decide +kernel
theorem d_Row_kindAt_17 : decode prog_5_method_5_code 17 = .ok (.bipush 11, 2) := by decide +kernel
theorem d_Row_kindAt_19 : decode prog_5_method_5_code 19 = .ok (.ireturn, 1) := by decide +kernel
theorem d_Row_kindAt_8 : decode prog_5_method_5_code 8 = .ok (.aload_n 0, 1) := by decide +kernel
theorem d_Row_kindAt_9 : decode prog_5_method_5_code 9 = .ok (.getfield 9, 3) := by decide +kernel
theorem mw_29 : Cond.fieldLink "ScanMill$Row" 9 "ScanMill$Row" "kinds" "[I" ∈ wG := wG_t 29 (by decide +kernel) (by decide +kernel)
theorem d_Row_kindAt_12 : decode prog_5_method_5_code 12 = .ok (.iload_n 1, 1) := by decide +kernel
theorem d_Row_kindAt_13 : decode prog_5_method_5_code 13 = .ok (.iaload, 1) := by decide +kernel
theorem d_Row_kindAt_14 : decode prog_5_method_5_code 14 = .ok (.goto 5, 3) := by decide +kernel
set_option maxRecDepth 100000 in
set_option maxHeartbeats 4000000 in
theorem c_Row_kindAt {l : Launch} {dC : Nat → ClassId} {dI : Nat → Nat → Nat} {cI cZ : ClassId} {r rk ra rb rc n : Nat} {fk fa fb fc : Nat → Int32} {k : Int32} (hn : n ≤ 60) : sm_I l y_Row_kindAt prog_5_method_5_code 2 (some .int) (rmF 1 21) (dC, dI) smC [(cI, .int), (cZ, .boolean)] [.ref r, .int k] [(r, .inr (0, [.ref rk, .ref ra, .ref rb, .ref rc, .int (nI n)])), (rk, .inl (cI, 60, .inl fk)), (ra, .inl (cI, 60, .inl fa)), (rb, .inl (cI, 60, .inl fb)), (rc, .inl (cI, 60, .inl fc))] (fun q w2 => q = (kA n fk k) ∧ w2 = [(r, .inr (0, [.ref rk, .ref ra, .ref rb, .ref rc, .int (nI n)])), (rk, .inl (cI, 60, .inl fk)), (ra, .inl (cI, 60, .inl fa)), (rb, .inl (cI, 60, .inl fb)), (rc, .inl (cI, 60, .inl fc))]) := by
  refine sm_I.mk (by decide) (Nat.le_of_ble_eq_true rfl) ?_
  intro p e s m below meth c A H locs ls hx hb hr ht hown hlocks hml hnm hP hK hD hA hS hN hl
  have hl : lv_has ls 2 [(0, .ref r), (1, .int k)] := hl
  refine lv_aload_n hx hb d_Row_kindAt_0 rfl (lv_at hl 0 rfl) ?_
  refine lv_iload_n hx hb d_Row_kindAt_1 rfl (lv_at hl 1 rfl) ?_
  refine sm_goi (wc := [(r, .inr (0, [.ref rk, .ref ra, .ref rb, .ref rc, .int (nI n)])), (rk, .inl (cI, 60, .inl fk)), (ra, .inl (cI, 60, .inl fa)), (rb, .inl (cI, 60, .inl fb)), (rc, .inl (cI, 60, .inl fc))]) (wr := []) (va_runV (As := [.int k]) (rest := []) ⟨hx, hb, hml, hown, ht⟩ ((c_Row_holds (l := l) (dC := dC) (dI := dI) (cI := cI) (cZ := cZ) (r := r) (rk := rk) (ra := ra) (rb := rb) (rc := rc) (n := n) (fk := fk) (fa := fa) (fb := fb) (fc := fc) (k := k) (by first | assumption | omega)).at H.size) (sm_cV 1 ht mw_221 mw_2 mw_218 mw_220 mp_2 rfl rfl (by decide +kernel) ⟨Nat.le_of_ble_eq_true rfl, Nat.le_of_ble_eq_true rfl⟩) (sm_preV (ci := 0) hN hK hP hD [0, 1, 2, 3, 4] rfl rfl (by decide) 0 rfl rfl) rfl rfl hl.1 rfl (lv_room (Nat.le_of_ble_eq_true rfl)) d_Row_kindAt_2 ⟨Nat.zero_le _, Nat.zero_le _⟩) hP hD hS hA [0, 1, 2, 3, 4] [] rfl rfl (by decide) (by decide) (fun r_2 w_2 H locs q_2 hP hD hS => ?_)
  obtain ⟨rfl, rfl⟩ := q_2
  have hP : va_P (dC, dI) smC [(r, .inr (0, [.ref rk, .ref ra, .ref rb, .ref rc, .int (nI n)])), (rk, .inl (cI, 60, .inl fk)), (ra, .inl (cI, 60, .inl fa)), (rb, .inl (cI, 60, .inl fb)), (rc, .inl (cI, 60, .inl fc))] H := hP
  have hD : va_D A [(r, .inr (0, [.ref rk, .ref ra, .ref rb, .ref rc, .int (nI n)])), (rk, .inl (cI, 60, .inl fk)), (ra, .inl (cI, 60, .inl fa)), (rb, .inl (cI, 60, .inl fb)), (rc, .inl (cI, 60, .inl fc))] := hD
  refine lv_if_eq (tgt := 17) hx hb d_Row_kindAt_5 (by decide) (fun c_5 => ?_) (fun c_5 => ?_)
  · skip
    have e_5 : (inB k n) = false := b2i_eq0 c_5
    refine lv_bipush (v := 11) hx hb d_Row_kindAt_17 (by decide) ?_
    refine sm_ri (v := (11 : Int32)) (ws := [(r, .inr (0, [.ref rk, .ref ra, .ref rb, .ref rc, .int (nI n)])), (rk, .inl (cI, 60, .inl fk)), (ra, .inl (cI, 60, .inl fa)), (rb, .inl (cI, 60, .inl fb)), (rc, .inl (cI, 60, .inl fc))]) hx hb hr hlocks hK (hP.sub [0, 1, 2, 3, 4] rfl) (hD.sub [0, 1, 2, 3, 4] (by decide) rfl) hS ?_ d_Row_kindAt_19
    exact ⟨by simp [kA, e_5], rfl⟩
  · skip
    have e_5 : (inB k n) = true := b2i_ne0 c_5
    refine lv_aload_n hx hb d_Row_kindAt_8 rfl (lv_at hl 0 rfl) ?_
    refine va_get (D := (dC, dI)) (ci := 0) (v := .ref rk) (C := R_Row) (T := T_Row) (N := 5) hx hb ht i_Row hown hK hP 0 rfl rfl 0 (by decide) (ht _ mw_29) (fun _ h9 => h9) rfl d_Row_kindAt_9 ?_
    refine lv_iload_n hx hb d_Row_kindAt_12 rfl (lv_at hl 1 rfl) ?_
    refine sm_iald (j := k.toNatClampNeg) hx hb hK hP 1 0 rfl rfl (sm_inB (inB_mono e_5 hn)) rfl d_Row_kindAt_13 ?_
    refine lv_goto (tgt := 19) hx hb d_Row_kindAt_14 (by decide) ?_
    refine sm_ri (v := fk k.toNatClampNeg) (ws := [(r, .inr (0, [.ref rk, .ref ra, .ref rb, .ref rc, .int (nI n)])), (rk, .inl (cI, 60, .inl fk)), (ra, .inl (cI, 60, .inl fa)), (rb, .inl (cI, 60, .inl fb)), (rc, .inl (cI, 60, .inl fc))]) hx hb hr hlocks hK (hP.sub [0, 1, 2, 3, 4] rfl) (hD.sub [0, 1, 2, 3, 4] (by decide) rfl) hS ?_ d_Row_kindAt_19
    exact ⟨by simp [kA, e_5], rfl⟩
abbrev y_Row_numberAt : MethodName := ⟨"ScanMill$Row", "numberAt", "(I)I"⟩
theorem d_Row_numberAt_0 : decode prog_5_method_6_code 0 = .ok (.aload_n 0, 1) := by decide +kernel
theorem d_Row_numberAt_1 : decode prog_5_method_6_code 1 = .ok (.iload_n 1, 1) := by decide +kernel
theorem d_Row_numberAt_2 : decode prog_5_method_6_code 2 = .ok (.invokevirtual 32, 3) := by decide +kernel
theorem d_Row_numberAt_5 : decode prog_5_method_6_code 5 = .ok (.ifCond .eq 12, 3) := by decide +kernel
theorem d_Row_numberAt_17 : decode prog_5_method_6_code 17 = .ok (.iconst 0, 1) := by decide +kernel
theorem d_Row_numberAt_18 : decode prog_5_method_6_code 18 = .ok (.ireturn, 1) := by decide +kernel
theorem d_Row_numberAt_8 : decode prog_5_method_6_code 8 = .ok (.aload_n 0, 1) := by decide +kernel
theorem d_Row_numberAt_9 : decode prog_5_method_6_code 9 = .ok (.getfield 18, 3) := by decide +kernel
theorem mw_31 : Cond.fieldLink "ScanMill$Row" 18 "ScanMill$Row" "bs" "[I" ∈ wG := wG_t 31 (by decide +kernel) (by decide +kernel)
theorem d_Row_numberAt_12 : decode prog_5_method_6_code 12 = .ok (.iload_n 1, 1) := by decide +kernel
theorem d_Row_numberAt_13 : decode prog_5_method_6_code 13 = .ok (.iaload, 1) := by decide +kernel
theorem d_Row_numberAt_14 : decode prog_5_method_6_code 14 = .ok (.goto 4, 3) := by decide +kernel
set_option maxRecDepth 100000 in
set_option maxHeartbeats 4000000 in
theorem c_Row_numberAt {l : Launch} {dC : Nat → ClassId} {dI : Nat → Nat → Nat} {cI cZ : ClassId} {r rk ra rb rc n : Nat} {fk fa fb fc : Nat → Int32} {k : Int32} (hn : n ≤ 60) : sm_I l y_Row_numberAt prog_5_method_6_code 2 (some .int) (rmF 1 21) (dC, dI) smC [(cI, .int), (cZ, .boolean)] [.ref r, .int k] [(r, .inr (0, [.ref rk, .ref ra, .ref rb, .ref rc, .int (nI n)])), (rk, .inl (cI, 60, .inl fk)), (ra, .inl (cI, 60, .inl fa)), (rb, .inl (cI, 60, .inl fb)), (rc, .inl (cI, 60, .inl fc))] (fun q w2 => q = (nA n fb k) ∧ w2 = [(r, .inr (0, [.ref rk, .ref ra, .ref rb, .ref rc, .int (nI n)])), (rk, .inl (cI, 60, .inl fk)), (ra, .inl (cI, 60, .inl fa)), (rb, .inl (cI, 60, .inl fb)), (rc, .inl (cI, 60, .inl fc))]) := by
  refine sm_I.mk (by decide) (Nat.le_of_ble_eq_true rfl) ?_
  intro p e s m below meth c A H locs ls hx hb hr ht hown hlocks hml hnm hP hK hD hA hS hN hl
  have hl : lv_has ls 2 [(0, .ref r), (1, .int k)] := hl
  refine lv_aload_n hx hb d_Row_numberAt_0 rfl (lv_at hl 0 rfl) ?_
  refine lv_iload_n hx hb d_Row_numberAt_1 rfl (lv_at hl 1 rfl) ?_
  refine sm_goi (wc := [(r, .inr (0, [.ref rk, .ref ra, .ref rb, .ref rc, .int (nI n)])), (rk, .inl (cI, 60, .inl fk)), (ra, .inl (cI, 60, .inl fa)), (rb, .inl (cI, 60, .inl fb)), (rc, .inl (cI, 60, .inl fc))]) (wr := []) (va_runV (As := [.int k]) (rest := []) ⟨hx, hb, hml, hown, ht⟩ ((c_Row_holds (l := l) (dC := dC) (dI := dI) (cI := cI) (cZ := cZ) (r := r) (rk := rk) (ra := ra) (rb := rb) (rc := rc) (n := n) (fk := fk) (fa := fa) (fb := fb) (fc := fc) (k := k) (by first | assumption | omega)).at H.size) (sm_cV 1 ht mw_221 mw_2 mw_218 mw_220 mp_2 rfl rfl (by decide +kernel) ⟨Nat.le_of_ble_eq_true rfl, Nat.le_of_ble_eq_true rfl⟩) (sm_preV (ci := 0) hN hK hP hD [0, 1, 2, 3, 4] rfl rfl (by decide) 0 rfl rfl) rfl rfl hl.1 rfl (lv_room (Nat.le_of_ble_eq_true rfl)) d_Row_numberAt_2 ⟨Nat.zero_le _, Nat.zero_le _⟩) hP hD hS hA [0, 1, 2, 3, 4] [] rfl rfl (by decide) (by decide) (fun r_2 w_2 H locs q_2 hP hD hS => ?_)
  obtain ⟨rfl, rfl⟩ := q_2
  have hP : va_P (dC, dI) smC [(r, .inr (0, [.ref rk, .ref ra, .ref rb, .ref rc, .int (nI n)])), (rk, .inl (cI, 60, .inl fk)), (ra, .inl (cI, 60, .inl fa)), (rb, .inl (cI, 60, .inl fb)), (rc, .inl (cI, 60, .inl fc))] H := hP
  have hD : va_D A [(r, .inr (0, [.ref rk, .ref ra, .ref rb, .ref rc, .int (nI n)])), (rk, .inl (cI, 60, .inl fk)), (ra, .inl (cI, 60, .inl fa)), (rb, .inl (cI, 60, .inl fb)), (rc, .inl (cI, 60, .inl fc))] := hD
  refine lv_if_eq (tgt := 17) hx hb d_Row_numberAt_5 (by decide) (fun c_5 => ?_) (fun c_5 => ?_)
  · skip
    have e_5 : (inB k n) = false := b2i_eq0 c_5
    refine lv_iconst (v := 0) hx hb d_Row_numberAt_17 (by decide) ?_
    refine sm_ri (v := (0 : Int32)) (ws := [(r, .inr (0, [.ref rk, .ref ra, .ref rb, .ref rc, .int (nI n)])), (rk, .inl (cI, 60, .inl fk)), (ra, .inl (cI, 60, .inl fa)), (rb, .inl (cI, 60, .inl fb)), (rc, .inl (cI, 60, .inl fc))]) hx hb hr hlocks hK (hP.sub [0, 1, 2, 3, 4] rfl) (hD.sub [0, 1, 2, 3, 4] (by decide) rfl) hS ?_ d_Row_numberAt_18
    exact ⟨by simp [nA, e_5], rfl⟩
  · skip
    have e_5 : (inB k n) = true := b2i_ne0 c_5
    refine lv_aload_n hx hb d_Row_numberAt_8 rfl (lv_at hl 0 rfl) ?_
    refine va_get (D := (dC, dI)) (ci := 0) (v := .ref rb) (C := R_Row) (T := T_Row) (N := 5) hx hb ht i_Row hown hK hP 0 rfl rfl 2 (by decide) (ht _ mw_31) (fun _ h9 => h9) rfl d_Row_numberAt_9 ?_
    refine lv_iload_n hx hb d_Row_numberAt_12 rfl (lv_at hl 1 rfl) ?_
    refine sm_iald (j := k.toNatClampNeg) hx hb hK hP 3 0 rfl rfl (sm_inB (inB_mono e_5 hn)) rfl d_Row_numberAt_13 ?_
    refine lv_goto (tgt := 18) hx hb d_Row_numberAt_14 (by decide) ?_
    refine sm_ri (v := fb k.toNatClampNeg) (ws := [(r, .inr (0, [.ref rk, .ref ra, .ref rb, .ref rc, .int (nI n)])), (rk, .inl (cI, 60, .inl fk)), (ra, .inl (cI, 60, .inl fa)), (rb, .inl (cI, 60, .inl fb)), (rc, .inl (cI, 60, .inl fc))]) hx hb hr hlocks hK (hP.sub [0, 1, 2, 3, 4] rfl) (hD.sub [0, 1, 2, 3, 4] (by decide) rfl) hS ?_ d_Row_numberAt_18
    exact ⟨by simp [nA, e_5], rfl⟩
abbrev y_Row_setAt : MethodName := ⟨"ScanMill$Row", "setAt", "(I)I"⟩
theorem d_Row_setAt_0 : decode prog_5_method_7_code 0 = .ok (.aload_n 0, 1) := by decide +kernel
theorem d_Row_setAt_1 : decode prog_5_method_7_code 1 = .ok (.iload_n 1, 1) := by decide +kernel
theorem d_Row_setAt_2 : decode prog_5_method_7_code 2 = .ok (.invokevirtual 36, 3) := by decide +kernel
theorem mw_217 : Cond.code ⟨"ScanMill$Row", "kindAt", "(I)I"⟩ prog_5_method_5_code 2 (Option.some FieldType.int) ∈ wG := wG_t 217 (by decide +kernel) (by decide +kernel)
theorem mw_214 : Cond.methodLink "ScanMill$Row" 36 ⟨"ScanMill$Row", "kindAt", "(I)I"⟩ ∈ wG := wG_t 214 (by decide +kernel) (by decide +kernel)
theorem mw_215 : Cond.instanceMethod ⟨"ScanMill$Row", "kindAt", "(I)I"⟩ ∈ wG := wG_t 215 (by decide +kernel) (by decide +kernel)
theorem mw_216 : Cond.selects "ScanMill$Row" ⟨"ScanMill$Row", "kindAt", "(I)I"⟩ ⟨"ScanMill$Row", "kindAt", "(I)I"⟩ ∈ wG := wG_t 216 (by decide +kernel) (by decide +kernel)
theorem d_Row_setAt_5 : decode prog_5_method_7_code 5 = .ok (.tableswitch 62 0 9 #[55, 55, 55, 55, 55, 55, 55, 62, 62, 55], 55) := by decide +kernel
theorem d_Row_setAt_60 : decode prog_5_method_7_code 60 = .ok (.aload_n 0, 1) := by decide +kernel
theorem d_Row_setAt_61 : decode prog_5_method_7_code 61 = .ok (.getfield 15, 3) := by decide +kernel
theorem mw_30 : Cond.fieldLink "ScanMill$Row" 15 "ScanMill$Row" "as" "[I" ∈ wG := wG_t 30 (by decide +kernel) (by decide +kernel)
theorem d_Row_setAt_64 : decode prog_5_method_7_code 64 = .ok (.iload_n 1, 1) := by decide +kernel
theorem d_Row_setAt_65 : decode prog_5_method_7_code 65 = .ok (.iaload, 1) := by decide +kernel
theorem d_Row_setAt_66 : decode prog_5_method_7_code 66 = .ok (.ireturn, 1) := by decide +kernel
theorem d_Row_setAt_67 : decode prog_5_method_7_code 67 = .ok (.iconst (-1), 1) := by decide +kernel
theorem d_Row_setAt_68 : decode prog_5_method_7_code 68 = .ok (.ireturn, 1) := by decide +kernel
set_option maxRecDepth 100000 in
set_option maxHeartbeats 4000000 in
theorem c_Row_setAt {l : Launch} {dC : Nat → ClassId} {dI : Nat → Nat → Nat} {cI cZ : ClassId} {r rk ra rb rc n : Nat} {fk fa fb fc : Nat → Int32} {k : Int32} (hn : n ≤ 60) : sm_I l y_Row_setAt prog_5_method_7_code 2 (some .int) (rmF 2 42) (dC, dI) smC [(cI, .int), (cZ, .boolean)] [.ref r, .int k] [(r, .inr (0, [.ref rk, .ref ra, .ref rb, .ref rc, .int (nI n)])), (rk, .inl (cI, 60, .inl fk)), (ra, .inl (cI, 60, .inl fa)), (rb, .inl (cI, 60, .inl fb)), (rc, .inl (cI, 60, .inl fc))] (fun q w2 => q = (sA n fk fa k) ∧ w2 = [(r, .inr (0, [.ref rk, .ref ra, .ref rb, .ref rc, .int (nI n)])), (rk, .inl (cI, 60, .inl fk)), (ra, .inl (cI, 60, .inl fa)), (rb, .inl (cI, 60, .inl fb)), (rc, .inl (cI, 60, .inl fc))]) := by
  refine sm_I.mk (by decide) (Nat.le_of_ble_eq_true rfl) ?_
  intro p e s m below meth c A H locs ls hx hb hr ht hown hlocks hml hnm hP hK hD hA hS hN hl
  have hl : lv_has ls 2 [(0, .ref r), (1, .int k)] := hl
  refine lv_aload_n hx hb d_Row_setAt_0 rfl (lv_at hl 0 rfl) ?_
  refine lv_iload_n hx hb d_Row_setAt_1 rfl (lv_at hl 1 rfl) ?_
  refine sm_goi (wc := [(r, .inr (0, [.ref rk, .ref ra, .ref rb, .ref rc, .int (nI n)])), (rk, .inl (cI, 60, .inl fk)), (ra, .inl (cI, 60, .inl fa)), (rb, .inl (cI, 60, .inl fb)), (rc, .inl (cI, 60, .inl fc))]) (wr := []) (va_runV (As := [.int k]) (rest := []) ⟨hx, hb, hml, hown, ht⟩ ((c_Row_kindAt (l := l) (dC := dC) (dI := dI) (cI := cI) (cZ := cZ) (r := r) (rk := rk) (ra := ra) (rb := rb) (rc := rc) (n := n) (fk := fk) (fa := fa) (fb := fb) (fc := fc) (k := k) (by first | assumption | omega)).at H.size) (sm_cV 1 ht mw_217 mw_2 mw_214 mw_215 mw_216 rfl rfl (by decide +kernel) ⟨Nat.le_of_ble_eq_true rfl, Nat.le_of_ble_eq_true rfl⟩) (sm_preV (ci := 0) hN hK hP hD [0, 1, 2, 3, 4] rfl rfl (by decide) 0 rfl rfl) rfl rfl hl.1 rfl (lv_room (Nat.le_of_ble_eq_true rfl)) d_Row_setAt_2 ⟨Nat.zero_le _, Nat.zero_le _⟩) hP hD hS hA [0, 1, 2, 3, 4] [] rfl rfl (by decide) (by decide) (fun r_2 w_2 H locs q_2 hP hD hS => ?_)
  obtain ⟨rfl, rfl⟩ := q_2
  have hP : va_P (dC, dI) smC [(r, .inr (0, [.ref rk, .ref ra, .ref rb, .ref rc, .int (nI n)])), (rk, .inl (cI, 60, .inl fk)), (ra, .inl (cI, 60, .inl fa)), (rb, .inl (cI, 60, .inl fb)), (rc, .inl (cI, 60, .inl fc))] H := hP
  have hD : va_D A [(r, .inr (0, [.ref rk, .ref ra, .ref rb, .ref rc, .int (nI n)])), (rk, .inl (cI, 60, .inl fk)), (ra, .inl (cI, 60, .inl fa)), (rb, .inl (cI, 60, .inl fb)), (rc, .inl (cI, 60, .inl fc))] := hD
  by_cases g_5_60 : (kA n fk k) = 0 ∨ (kA n fk k) = 1 ∨ (kA n fk k) = 2 ∨ (kA n fk k) = 3 ∨ (kA n fk k) = 4 ∨ (kA n fk k) = 5 ∨ (kA n fk k) = 6 ∨ (kA n fk k) = 9
  · skip
    refine sm_tab (tgt := 60) hx hb d_Row_setAt_5 (by rcases g_5_60 with h | h | h | h | h | h | h | h <;> (rw [h]; decide)) ?_
    refine lv_aload_n hx hb d_Row_setAt_60 rfl (lv_at hl 0 rfl) ?_
    refine va_get (D := (dC, dI)) (ci := 0) (v := .ref ra) (C := R_Row) (T := T_Row) (N := 5) hx hb ht i_Row hown hK hP 0 rfl rfl 1 (by decide) (ht _ mw_30) (fun _ h9 => h9) rfl d_Row_setAt_61 ?_
    refine lv_iload_n hx hb d_Row_setAt_64 rfl (lv_at hl 1 rfl) ?_
    refine sm_iald (j := k.toNatClampNeg) hx hb hK hP 2 0 rfl rfl (kA_vp hn (by rcases g_5_60 with h | h | h | h | h | h | h | h <;> (rw [h]; decide))) rfl d_Row_setAt_65 ?_
    refine sm_ri (v := fa k.toNatClampNeg) (ws := [(r, .inr (0, [.ref rk, .ref ra, .ref rb, .ref rc, .int (nI n)])), (rk, .inl (cI, 60, .inl fk)), (ra, .inl (cI, 60, .inl fa)), (rb, .inl (cI, 60, .inl fb)), (rc, .inl (cI, 60, .inl fc))]) hx hb hr hlocks hK (hP.sub [0, 1, 2, 3, 4] rfl) (hD.sub [0, 1, 2, 3, 4] (by decide) rfl) hS ?_ d_Row_setAt_66
    exact ⟨(if_pos g_5_60).symm, rfl⟩
  refine sm_tab (tgt := 67) hx hb d_Row_setAt_5 (sm_tabD [0, 1, 2, 3, 4, 5, 6, 9] ⟨fun z => g_5_60 (Or.inl z), fun z => g_5_60 (Or.inr (Or.inl z)), fun z => g_5_60 (Or.inr (Or.inr (Or.inl z))), fun z => g_5_60 (Or.inr (Or.inr (Or.inr (Or.inl z)))), fun z => g_5_60 (Or.inr (Or.inr (Or.inr (Or.inr (Or.inl z))))), fun z => g_5_60 (Or.inr (Or.inr (Or.inr (Or.inr (Or.inr (Or.inl z)))))), fun z => g_5_60 (Or.inr (Or.inr (Or.inr (Or.inr (Or.inr (Or.inr (Or.inl z))))))), fun z => g_5_60 (Or.inr (Or.inr (Or.inr (Or.inr (Or.inr (Or.inr (Or.inr (z)))))))), trivial⟩ (by decide) (by decide)) ?_
  refine lv_iconst (v := -1) hx hb d_Row_setAt_67 (by decide) ?_
  refine sm_ri (v := (-1 : Int32)) (ws := [(r, .inr (0, [.ref rk, .ref ra, .ref rb, .ref rc, .int (nI n)])), (rk, .inl (cI, 60, .inl fk)), (ra, .inl (cI, 60, .inl fa)), (rb, .inl (cI, 60, .inl fb)), (rc, .inl (cI, 60, .inl fc))]) hx hb hr hlocks hK (hP.sub [0, 1, 2, 3, 4] rfl) (hD.sub [0, 1, 2, 3, 4] (by decide) rfl) hS ?_ d_Row_setAt_68
  exact ⟨(if_neg g_5_60).symm, rfl⟩
abbrev y_Row_leftAt : MethodName := ⟨"ScanMill$Row", "leftAt", "(I)I"⟩
theorem d_Row_leftAt_0 : decode prog_5_method_8_code 0 = .ok (.aload_n 0, 1) := by decide +kernel
theorem d_Row_leftAt_1 : decode prog_5_method_8_code 1 = .ok (.iload_n 1, 1) := by decide +kernel
theorem d_Row_leftAt_2 : decode prog_5_method_8_code 2 = .ok (.invokevirtual 36, 3) := by decide +kernel
theorem d_Row_leftAt_5 : decode prog_5_method_8_code 5 = .ok (.tableswitch 69 1 10 #[55, 55, 55, 55, 55, 55, 69, 62, 69, 62], 55) := by decide +kernel
theorem d_Row_leftAt_60 : decode prog_5_method_8_code 60 = .ok (.aload_n 0, 1) := by decide +kernel
theorem d_Row_leftAt_61 : decode prog_5_method_8_code 61 = .ok (.getfield 18, 3) := by decide +kernel
theorem d_Row_leftAt_64 : decode prog_5_method_8_code 64 = .ok (.iload_n 1, 1) := by decide +kernel
theorem d_Row_leftAt_65 : decode prog_5_method_8_code 65 = .ok (.iaload, 1) := by decide +kernel
theorem d_Row_leftAt_66 : decode prog_5_method_8_code 66 = .ok (.ireturn, 1) := by decide +kernel
theorem d_Row_leftAt_67 : decode prog_5_method_8_code 67 = .ok (.aload_n 0, 1) := by decide +kernel
theorem d_Row_leftAt_68 : decode prog_5_method_8_code 68 = .ok (.getfield 15, 3) := by decide +kernel
theorem d_Row_leftAt_71 : decode prog_5_method_8_code 71 = .ok (.iload_n 1, 1) := by decide +kernel
theorem d_Row_leftAt_72 : decode prog_5_method_8_code 72 = .ok (.iaload, 1) := by decide +kernel
theorem d_Row_leftAt_73 : decode prog_5_method_8_code 73 = .ok (.ireturn, 1) := by decide +kernel
theorem d_Row_leftAt_74 : decode prog_5_method_8_code 74 = .ok (.iconst (-1), 1) := by decide +kernel
theorem d_Row_leftAt_75 : decode prog_5_method_8_code 75 = .ok (.ireturn, 1) := by decide +kernel
set_option maxRecDepth 100000 in
set_option maxHeartbeats 4000000 in
theorem c_Row_leftAt {l : Launch} {dC : Nat → ClassId} {dI : Nat → Nat → Nat} {cI cZ : ClassId} {r rk ra rb rc n : Nat} {fk fa fb fc : Nat → Int32} {k : Int32} (hn : n ≤ 60) : sm_I l y_Row_leftAt prog_5_method_8_code 2 (some .int) (rmF 2 42) (dC, dI) smC [(cI, .int), (cZ, .boolean)] [.ref r, .int k] [(r, .inr (0, [.ref rk, .ref ra, .ref rb, .ref rc, .int (nI n)])), (rk, .inl (cI, 60, .inl fk)), (ra, .inl (cI, 60, .inl fa)), (rb, .inl (cI, 60, .inl fb)), (rc, .inl (cI, 60, .inl fc))] (fun q w2 => q = (lA n fk fa fb k) ∧ w2 = [(r, .inr (0, [.ref rk, .ref ra, .ref rb, .ref rc, .int (nI n)])), (rk, .inl (cI, 60, .inl fk)), (ra, .inl (cI, 60, .inl fa)), (rb, .inl (cI, 60, .inl fb)), (rc, .inl (cI, 60, .inl fc))]) := by
  refine sm_I.mk (by decide) (Nat.le_of_ble_eq_true rfl) ?_
  intro p e s m below meth c A H locs ls hx hb hr ht hown hlocks hml hnm hP hK hD hA hS hN hl
  have hl : lv_has ls 2 [(0, .ref r), (1, .int k)] := hl
  refine lv_aload_n hx hb d_Row_leftAt_0 rfl (lv_at hl 0 rfl) ?_
  refine lv_iload_n hx hb d_Row_leftAt_1 rfl (lv_at hl 1 rfl) ?_
  refine sm_goi (wc := [(r, .inr (0, [.ref rk, .ref ra, .ref rb, .ref rc, .int (nI n)])), (rk, .inl (cI, 60, .inl fk)), (ra, .inl (cI, 60, .inl fa)), (rb, .inl (cI, 60, .inl fb)), (rc, .inl (cI, 60, .inl fc))]) (wr := []) (va_runV (As := [.int k]) (rest := []) ⟨hx, hb, hml, hown, ht⟩ ((c_Row_kindAt (l := l) (dC := dC) (dI := dI) (cI := cI) (cZ := cZ) (r := r) (rk := rk) (ra := ra) (rb := rb) (rc := rc) (n := n) (fk := fk) (fa := fa) (fb := fb) (fc := fc) (k := k) (by first | assumption | omega)).at H.size) (sm_cV 1 ht mw_217 mw_2 mw_214 mw_215 mw_216 rfl rfl (by decide +kernel) ⟨Nat.le_of_ble_eq_true rfl, Nat.le_of_ble_eq_true rfl⟩) (sm_preV (ci := 0) hN hK hP hD [0, 1, 2, 3, 4] rfl rfl (by decide) 0 rfl rfl) rfl rfl hl.1 rfl (lv_room (Nat.le_of_ble_eq_true rfl)) d_Row_leftAt_2 ⟨Nat.zero_le _, Nat.zero_le _⟩) hP hD hS hA [0, 1, 2, 3, 4] [] rfl rfl (by decide) (by decide) (fun r_2 w_2 H locs q_2 hP hD hS => ?_)
  obtain ⟨rfl, rfl⟩ := q_2
  have hP : va_P (dC, dI) smC [(r, .inr (0, [.ref rk, .ref ra, .ref rb, .ref rc, .int (nI n)])), (rk, .inl (cI, 60, .inl fk)), (ra, .inl (cI, 60, .inl fa)), (rb, .inl (cI, 60, .inl fb)), (rc, .inl (cI, 60, .inl fc))] H := hP
  have hD : va_D A [(r, .inr (0, [.ref rk, .ref ra, .ref rb, .ref rc, .int (nI n)])), (rk, .inl (cI, 60, .inl fk)), (ra, .inl (cI, 60, .inl fa)), (rb, .inl (cI, 60, .inl fb)), (rc, .inl (cI, 60, .inl fc))] := hD
  by_cases g_5_60 : (kA n fk k) = 1 ∨ (kA n fk k) = 2 ∨ (kA n fk k) = 3 ∨ (kA n fk k) = 4 ∨ (kA n fk k) = 5 ∨ (kA n fk k) = 6
  · skip
    refine sm_tab (tgt := 60) hx hb d_Row_leftAt_5 (by rcases g_5_60 with h | h | h | h | h | h <;> (rw [h]; decide)) ?_
    refine lv_aload_n hx hb d_Row_leftAt_60 rfl (lv_at hl 0 rfl) ?_
    refine va_get (D := (dC, dI)) (ci := 0) (v := .ref rb) (C := R_Row) (T := T_Row) (N := 5) hx hb ht i_Row hown hK hP 0 rfl rfl 2 (by decide) (ht _ mw_31) (fun _ h9 => h9) rfl d_Row_leftAt_61 ?_
    refine lv_iload_n hx hb d_Row_leftAt_64 rfl (lv_at hl 1 rfl) ?_
    refine sm_iald (j := k.toNatClampNeg) hx hb hK hP 3 0 rfl rfl (kA_vp hn (by rcases g_5_60 with h | h | h | h | h | h <;> (rw [h]; decide))) rfl d_Row_leftAt_65 ?_
    refine sm_ri (v := fb k.toNatClampNeg) (ws := [(r, .inr (0, [.ref rk, .ref ra, .ref rb, .ref rc, .int (nI n)])), (rk, .inl (cI, 60, .inl fk)), (ra, .inl (cI, 60, .inl fa)), (rb, .inl (cI, 60, .inl fb)), (rc, .inl (cI, 60, .inl fc))]) hx hb hr hlocks hK (hP.sub [0, 1, 2, 3, 4] rfl) (hD.sub [0, 1, 2, 3, 4] (by decide) rfl) hS ?_ d_Row_leftAt_66
    exact ⟨(if_pos g_5_60).symm, rfl⟩
  by_cases g_5_67 : (kA n fk k) = 8 ∨ (kA n fk k) = 10
  · skip
    refine sm_tab (tgt := 67) hx hb d_Row_leftAt_5 (by rcases g_5_67 with h | h <;> (rw [h]; decide)) ?_
    refine lv_aload_n hx hb d_Row_leftAt_67 rfl (lv_at hl 0 rfl) ?_
    refine va_get (D := (dC, dI)) (ci := 0) (v := .ref ra) (C := R_Row) (T := T_Row) (N := 5) hx hb ht i_Row hown hK hP 0 rfl rfl 1 (by decide) (ht _ mw_30) (fun _ h9 => h9) rfl d_Row_leftAt_68 ?_
    refine lv_iload_n hx hb d_Row_leftAt_71 rfl (lv_at hl 1 rfl) ?_
    refine sm_iald (j := k.toNatClampNeg) hx hb hK hP 2 0 rfl rfl (kA_vp hn (by rcases g_5_67 with h | h <;> (rw [h]; decide))) rfl d_Row_leftAt_72 ?_
    refine sm_ri (v := fa k.toNatClampNeg) (ws := [(r, .inr (0, [.ref rk, .ref ra, .ref rb, .ref rc, .int (nI n)])), (rk, .inl (cI, 60, .inl fk)), (ra, .inl (cI, 60, .inl fa)), (rb, .inl (cI, 60, .inl fb)), (rc, .inl (cI, 60, .inl fc))]) hx hb hr hlocks hK (hP.sub [0, 1, 2, 3, 4] rfl) (hD.sub [0, 1, 2, 3, 4] (by decide) rfl) hS ?_ d_Row_leftAt_73
    exact ⟨((if_neg g_5_60).trans (if_pos g_5_67)).symm, rfl⟩
  refine sm_tab (tgt := 74) hx hb d_Row_leftAt_5 (sm_tabD [1, 2, 3, 4, 5, 6, 8, 10] ⟨fun z => g_5_60 (Or.inl z), fun z => g_5_60 (Or.inr (Or.inl z)), fun z => g_5_60 (Or.inr (Or.inr (Or.inl z))), fun z => g_5_60 (Or.inr (Or.inr (Or.inr (Or.inl z)))), fun z => g_5_60 (Or.inr (Or.inr (Or.inr (Or.inr (Or.inl z))))), fun z => g_5_60 (Or.inr (Or.inr (Or.inr (Or.inr (Or.inr (z)))))), fun z => g_5_67 (Or.inl z), fun z => g_5_67 (Or.inr (z)), trivial⟩ (by decide) (by decide)) ?_
  refine lv_iconst (v := -1) hx hb d_Row_leftAt_74 (by decide) ?_
  refine sm_ri (v := (-1 : Int32)) (ws := [(r, .inr (0, [.ref rk, .ref ra, .ref rb, .ref rc, .int (nI n)])), (rk, .inl (cI, 60, .inl fk)), (ra, .inl (cI, 60, .inl fa)), (rb, .inl (cI, 60, .inl fb)), (rc, .inl (cI, 60, .inl fc))]) hx hb hr hlocks hK (hP.sub [0, 1, 2, 3, 4] rfl) (hD.sub [0, 1, 2, 3, 4] (by decide) rfl) hS ?_ d_Row_leftAt_75
  exact ⟨((if_neg g_5_60).trans (if_neg g_5_67)).symm, rfl⟩
abbrev y_Row_rightAt : MethodName := ⟨"ScanMill$Row", "rightAt", "(I)I"⟩
theorem d_Row_rightAt_0 : decode prog_5_method_9_code 0 = .ok (.aload_n 0, 1) := by decide +kernel
theorem d_Row_rightAt_1 : decode prog_5_method_9_code 1 = .ok (.iload_n 1, 1) := by decide +kernel
theorem d_Row_rightAt_2 : decode prog_5_method_9_code 2 = .ok (.invokevirtual 36, 3) := by decide +kernel
theorem d_Row_rightAt_5 : decode prog_5_method_9_code 5 = .ok (.tableswitch 42 1 5 #[35, 35, 35, 35, 35], 35) := by decide +kernel
theorem d_Row_rightAt_40 : decode prog_5_method_9_code 40 = .ok (.aload_n 0, 1) := by decide +kernel
theorem d_Row_rightAt_41 : decode prog_5_method_9_code 41 = .ok (.getfield 21, 3) := by decide +kernel
theorem mw_32 : Cond.fieldLink "ScanMill$Row" 21 "ScanMill$Row" "cs" "[I" ∈ wG := wG_t 32 (by decide +kernel) (by decide +kernel)
theorem d_Row_rightAt_44 : decode prog_5_method_9_code 44 = .ok (.iload_n 1, 1) := by decide +kernel
theorem d_Row_rightAt_45 : decode prog_5_method_9_code 45 = .ok (.iaload, 1) := by decide +kernel
theorem d_Row_rightAt_46 : decode prog_5_method_9_code 46 = .ok (.ireturn, 1) := by decide +kernel
theorem d_Row_rightAt_47 : decode prog_5_method_9_code 47 = .ok (.iconst (-1), 1) := by decide +kernel
theorem d_Row_rightAt_48 : decode prog_5_method_9_code 48 = .ok (.ireturn, 1) := by decide +kernel
set_option maxRecDepth 100000 in
set_option maxHeartbeats 4000000 in
theorem c_Row_rightAt {l : Launch} {dC : Nat → ClassId} {dI : Nat → Nat → Nat} {cI cZ : ClassId} {r rk ra rb rc n : Nat} {fk fa fb fc : Nat → Int32} {k : Int32} (hn : n ≤ 60) : sm_I l y_Row_rightAt prog_5_method_9_code 2 (some .int) (rmF 2 42) (dC, dI) smC [(cI, .int), (cZ, .boolean)] [.ref r, .int k] [(r, .inr (0, [.ref rk, .ref ra, .ref rb, .ref rc, .int (nI n)])), (rk, .inl (cI, 60, .inl fk)), (ra, .inl (cI, 60, .inl fa)), (rb, .inl (cI, 60, .inl fb)), (rc, .inl (cI, 60, .inl fc))] (fun q w2 => q = (rA n fk fc k) ∧ w2 = [(r, .inr (0, [.ref rk, .ref ra, .ref rb, .ref rc, .int (nI n)])), (rk, .inl (cI, 60, .inl fk)), (ra, .inl (cI, 60, .inl fa)), (rb, .inl (cI, 60, .inl fb)), (rc, .inl (cI, 60, .inl fc))]) := by
  refine sm_I.mk (by decide) (Nat.le_of_ble_eq_true rfl) ?_
  intro p e s m below meth c A H locs ls hx hb hr ht hown hlocks hml hnm hP hK hD hA hS hN hl
  have hl : lv_has ls 2 [(0, .ref r), (1, .int k)] := hl
  refine lv_aload_n hx hb d_Row_rightAt_0 rfl (lv_at hl 0 rfl) ?_
  refine lv_iload_n hx hb d_Row_rightAt_1 rfl (lv_at hl 1 rfl) ?_
  refine sm_goi (wc := [(r, .inr (0, [.ref rk, .ref ra, .ref rb, .ref rc, .int (nI n)])), (rk, .inl (cI, 60, .inl fk)), (ra, .inl (cI, 60, .inl fa)), (rb, .inl (cI, 60, .inl fb)), (rc, .inl (cI, 60, .inl fc))]) (wr := []) (va_runV (As := [.int k]) (rest := []) ⟨hx, hb, hml, hown, ht⟩ ((c_Row_kindAt (l := l) (dC := dC) (dI := dI) (cI := cI) (cZ := cZ) (r := r) (rk := rk) (ra := ra) (rb := rb) (rc := rc) (n := n) (fk := fk) (fa := fa) (fb := fb) (fc := fc) (k := k) (by first | assumption | omega)).at H.size) (sm_cV 1 ht mw_217 mw_2 mw_214 mw_215 mw_216 rfl rfl (by decide +kernel) ⟨Nat.le_of_ble_eq_true rfl, Nat.le_of_ble_eq_true rfl⟩) (sm_preV (ci := 0) hN hK hP hD [0, 1, 2, 3, 4] rfl rfl (by decide) 0 rfl rfl) rfl rfl hl.1 rfl (lv_room (Nat.le_of_ble_eq_true rfl)) d_Row_rightAt_2 ⟨Nat.zero_le _, Nat.zero_le _⟩) hP hD hS hA [0, 1, 2, 3, 4] [] rfl rfl (by decide) (by decide) (fun r_2 w_2 H locs q_2 hP hD hS => ?_)
  obtain ⟨rfl, rfl⟩ := q_2
  have hP : va_P (dC, dI) smC [(r, .inr (0, [.ref rk, .ref ra, .ref rb, .ref rc, .int (nI n)])), (rk, .inl (cI, 60, .inl fk)), (ra, .inl (cI, 60, .inl fa)), (rb, .inl (cI, 60, .inl fb)), (rc, .inl (cI, 60, .inl fc))] H := hP
  have hD : va_D A [(r, .inr (0, [.ref rk, .ref ra, .ref rb, .ref rc, .int (nI n)])), (rk, .inl (cI, 60, .inl fk)), (ra, .inl (cI, 60, .inl fa)), (rb, .inl (cI, 60, .inl fb)), (rc, .inl (cI, 60, .inl fc))] := hD
  by_cases g_5_40 : (kA n fk k) = 1 ∨ (kA n fk k) = 2 ∨ (kA n fk k) = 3 ∨ (kA n fk k) = 4 ∨ (kA n fk k) = 5
  · skip
    refine sm_tab (tgt := 40) hx hb d_Row_rightAt_5 (by rcases g_5_40 with h | h | h | h | h <;> (rw [h]; decide)) ?_
    refine lv_aload_n hx hb d_Row_rightAt_40 rfl (lv_at hl 0 rfl) ?_
    refine va_get (D := (dC, dI)) (ci := 0) (v := .ref rc) (C := R_Row) (T := T_Row) (N := 5) hx hb ht i_Row hown hK hP 0 rfl rfl 3 (by decide) (ht _ mw_32) (fun _ h9 => h9) rfl d_Row_rightAt_41 ?_
    refine lv_iload_n hx hb d_Row_rightAt_44 rfl (lv_at hl 1 rfl) ?_
    refine sm_iald (j := k.toNatClampNeg) hx hb hK hP 4 0 rfl rfl (kA_vp hn (by rcases g_5_40 with h | h | h | h | h <;> (rw [h]; decide))) rfl d_Row_rightAt_45 ?_
    refine sm_ri (v := fc k.toNatClampNeg) (ws := [(r, .inr (0, [.ref rk, .ref ra, .ref rb, .ref rc, .int (nI n)])), (rk, .inl (cI, 60, .inl fk)), (ra, .inl (cI, 60, .inl fa)), (rb, .inl (cI, 60, .inl fb)), (rc, .inl (cI, 60, .inl fc))]) hx hb hr hlocks hK (hP.sub [0, 1, 2, 3, 4] rfl) (hD.sub [0, 1, 2, 3, 4] (by decide) rfl) hS ?_ d_Row_rightAt_46
    exact ⟨(if_pos g_5_40).symm, rfl⟩
  refine sm_tab (tgt := 47) hx hb d_Row_rightAt_5 (sm_tabD [1, 2, 3, 4, 5] ⟨fun z => g_5_40 (Or.inl z), fun z => g_5_40 (Or.inr (Or.inl z)), fun z => g_5_40 (Or.inr (Or.inr (Or.inl z))), fun z => g_5_40 (Or.inr (Or.inr (Or.inr (Or.inl z)))), fun z => g_5_40 (Or.inr (Or.inr (Or.inr (Or.inr (z))))), trivial⟩ (by decide) (by decide)) ?_
  refine lv_iconst (v := -1) hx hb d_Row_rightAt_47 (by decide) ?_
  refine sm_ri (v := (-1 : Int32)) (ws := [(r, .inr (0, [.ref rk, .ref ra, .ref rb, .ref rc, .int (nI n)])), (rk, .inl (cI, 60, .inl fk)), (ra, .inl (cI, 60, .inl fa)), (rb, .inl (cI, 60, .inl fb)), (rc, .inl (cI, 60, .inl fc))]) hx hb hr hlocks hK (hP.sub [0, 1, 2, 3, 4] rfl) (hD.sub [0, 1, 2, 3, 4] (by decide) rfl) hS ?_ d_Row_rightAt_48
  exact ⟨(if_neg g_5_40).symm, rfl⟩
abbrev y_Row_targetAt : MethodName := ⟨"ScanMill$Row", "targetAt", "(I)I"⟩
theorem d_Row_targetAt_0 : decode prog_5_method_10_code 0 = .ok (.aload_n 0, 1) := by decide +kernel
theorem d_Row_targetAt_1 : decode prog_5_method_10_code 1 = .ok (.iload_n 1, 1) := by decide +kernel
theorem d_Row_targetAt_2 : decode prog_5_method_10_code 2 = .ok (.invokevirtual 36, 3) := by decide +kernel
theorem d_Row_targetAt_5 : decode prog_5_method_10_code 5 = .ok (.lookupswitch 41 #[(7, 27), (8, 34)], 27) := by decide +kernel
theorem d_Row_targetAt_32 : decode prog_5_method_10_code 32 = .ok (.aload_n 0, 1) := by decide +kernel
theorem d_Row_targetAt_33 : decode prog_5_method_10_code 33 = .ok (.getfield 15, 3) := by decide +kernel
theorem d_Row_targetAt_36 : decode prog_5_method_10_code 36 = .ok (.iload_n 1, 1) := by decide +kernel
theorem d_Row_targetAt_37 : decode prog_5_method_10_code 37 = .ok (.iaload, 1) := by decide +kernel
theorem d_Row_targetAt_38 : decode prog_5_method_10_code 38 = .ok (.ireturn, 1) := by decide +kernel
theorem d_Row_targetAt_39 : decode prog_5_method_10_code 39 = .ok (.aload_n 0, 1) := by decide +kernel
theorem d_Row_targetAt_40 : decode prog_5_method_10_code 40 = .ok (.getfield 18, 3) := by decide +kernel
theorem d_Row_targetAt_43 : decode prog_5_method_10_code 43 = .ok (.iload_n 1, 1) := by decide +kernel
theorem d_Row_targetAt_44 : decode prog_5_method_10_code 44 = .ok (.iaload, 1) := by decide +kernel
theorem d_Row_targetAt_45 : decode prog_5_method_10_code 45 = .ok (.ireturn, 1) := by decide +kernel
theorem d_Row_targetAt_46 : decode prog_5_method_10_code 46 = .ok (.iconst (-1), 1) := by decide +kernel
theorem d_Row_targetAt_47 : decode prog_5_method_10_code 47 = .ok (.ireturn, 1) := by decide +kernel
set_option maxRecDepth 100000 in
set_option maxHeartbeats 4000000 in
theorem c_Row_targetAt {l : Launch} {dC : Nat → ClassId} {dI : Nat → Nat → Nat} {cI cZ : ClassId} {r rk ra rb rc n : Nat} {fk fa fb fc : Nat → Int32} {k : Int32} (hn : n ≤ 60) : sm_I l y_Row_targetAt prog_5_method_10_code 2 (some .int) (rmF 2 42) (dC, dI) smC [(cI, .int), (cZ, .boolean)] [.ref r, .int k] [(r, .inr (0, [.ref rk, .ref ra, .ref rb, .ref rc, .int (nI n)])), (rk, .inl (cI, 60, .inl fk)), (ra, .inl (cI, 60, .inl fa)), (rb, .inl (cI, 60, .inl fb)), (rc, .inl (cI, 60, .inl fc))] (fun q w2 => q = (tA n fk fa fb k) ∧ w2 = [(r, .inr (0, [.ref rk, .ref ra, .ref rb, .ref rc, .int (nI n)])), (rk, .inl (cI, 60, .inl fk)), (ra, .inl (cI, 60, .inl fa)), (rb, .inl (cI, 60, .inl fb)), (rc, .inl (cI, 60, .inl fc))]) := by
  refine sm_I.mk (by decide) (Nat.le_of_ble_eq_true rfl) ?_
  intro p e s m below meth c A H locs ls hx hb hr ht hown hlocks hml hnm hP hK hD hA hS hN hl
  have hl : lv_has ls 2 [(0, .ref r), (1, .int k)] := hl
  refine lv_aload_n hx hb d_Row_targetAt_0 rfl (lv_at hl 0 rfl) ?_
  refine lv_iload_n hx hb d_Row_targetAt_1 rfl (lv_at hl 1 rfl) ?_
  refine sm_goi (wc := [(r, .inr (0, [.ref rk, .ref ra, .ref rb, .ref rc, .int (nI n)])), (rk, .inl (cI, 60, .inl fk)), (ra, .inl (cI, 60, .inl fa)), (rb, .inl (cI, 60, .inl fb)), (rc, .inl (cI, 60, .inl fc))]) (wr := []) (va_runV (As := [.int k]) (rest := []) ⟨hx, hb, hml, hown, ht⟩ ((c_Row_kindAt (l := l) (dC := dC) (dI := dI) (cI := cI) (cZ := cZ) (r := r) (rk := rk) (ra := ra) (rb := rb) (rc := rc) (n := n) (fk := fk) (fa := fa) (fb := fb) (fc := fc) (k := k) (by first | assumption | omega)).at H.size) (sm_cV 1 ht mw_217 mw_2 mw_214 mw_215 mw_216 rfl rfl (by decide +kernel) ⟨Nat.le_of_ble_eq_true rfl, Nat.le_of_ble_eq_true rfl⟩) (sm_preV (ci := 0) hN hK hP hD [0, 1, 2, 3, 4] rfl rfl (by decide) 0 rfl rfl) rfl rfl hl.1 rfl (lv_room (Nat.le_of_ble_eq_true rfl)) d_Row_targetAt_2 ⟨Nat.zero_le _, Nat.zero_le _⟩) hP hD hS hA [0, 1, 2, 3, 4] [] rfl rfl (by decide) (by decide) (fun r_2 w_2 H locs q_2 hP hD hS => ?_)
  obtain ⟨rfl, rfl⟩ := q_2
  have hP : va_P (dC, dI) smC [(r, .inr (0, [.ref rk, .ref ra, .ref rb, .ref rc, .int (nI n)])), (rk, .inl (cI, 60, .inl fk)), (ra, .inl (cI, 60, .inl fa)), (rb, .inl (cI, 60, .inl fb)), (rc, .inl (cI, 60, .inl fc))] H := hP
  have hD : va_D A [(r, .inr (0, [.ref rk, .ref ra, .ref rb, .ref rc, .int (nI n)])), (rk, .inl (cI, 60, .inl fk)), (ra, .inl (cI, 60, .inl fa)), (rb, .inl (cI, 60, .inl fb)), (rc, .inl (cI, 60, .inl fc))] := hD
  by_cases g_5_32 : (kA n fk k) = 7
  · skip
    refine sm_look (tgt := 32) hx hb d_Row_targetAt_5 (by rw [g_5_32]; decide) ?_
    refine lv_aload_n hx hb d_Row_targetAt_32 rfl (lv_at hl 0 rfl) ?_
    refine va_get (D := (dC, dI)) (ci := 0) (v := .ref ra) (C := R_Row) (T := T_Row) (N := 5) hx hb ht i_Row hown hK hP 0 rfl rfl 1 (by decide) (ht _ mw_30) (fun _ h9 => h9) rfl d_Row_targetAt_33 ?_
    refine lv_iload_n hx hb d_Row_targetAt_36 rfl (lv_at hl 1 rfl) ?_
    refine sm_iald (j := k.toNatClampNeg) hx hb hK hP 2 0 rfl rfl (kA_vp hn (by rw [g_5_32]; decide)) rfl d_Row_targetAt_37 ?_
    refine sm_ri (v := fa k.toNatClampNeg) (ws := [(r, .inr (0, [.ref rk, .ref ra, .ref rb, .ref rc, .int (nI n)])), (rk, .inl (cI, 60, .inl fk)), (ra, .inl (cI, 60, .inl fa)), (rb, .inl (cI, 60, .inl fb)), (rc, .inl (cI, 60, .inl fc))]) hx hb hr hlocks hK (hP.sub [0, 1, 2, 3, 4] rfl) (hD.sub [0, 1, 2, 3, 4] (by decide) rfl) hS ?_ d_Row_targetAt_38
    exact ⟨(if_pos g_5_32).symm, rfl⟩
  by_cases g_5_39 : (kA n fk k) = 8
  · skip
    refine sm_look (tgt := 39) hx hb d_Row_targetAt_5 (by rw [g_5_39]; decide) ?_
    refine lv_aload_n hx hb d_Row_targetAt_39 rfl (lv_at hl 0 rfl) ?_
    refine va_get (D := (dC, dI)) (ci := 0) (v := .ref rb) (C := R_Row) (T := T_Row) (N := 5) hx hb ht i_Row hown hK hP 0 rfl rfl 2 (by decide) (ht _ mw_31) (fun _ h9 => h9) rfl d_Row_targetAt_40 ?_
    refine lv_iload_n hx hb d_Row_targetAt_43 rfl (lv_at hl 1 rfl) ?_
    refine sm_iald (j := k.toNatClampNeg) hx hb hK hP 3 0 rfl rfl (kA_vp hn (by rw [g_5_39]; decide)) rfl d_Row_targetAt_44 ?_
    refine sm_ri (v := fb k.toNatClampNeg) (ws := [(r, .inr (0, [.ref rk, .ref ra, .ref rb, .ref rc, .int (nI n)])), (rk, .inl (cI, 60, .inl fk)), (ra, .inl (cI, 60, .inl fa)), (rb, .inl (cI, 60, .inl fb)), (rc, .inl (cI, 60, .inl fc))]) hx hb hr hlocks hK (hP.sub [0, 1, 2, 3, 4] rfl) (hD.sub [0, 1, 2, 3, 4] (by decide) rfl) hS ?_ d_Row_targetAt_45
    exact ⟨((if_neg g_5_32).trans (if_pos g_5_39)).symm, rfl⟩
  refine sm_look (tgt := 46) hx hb d_Row_targetAt_5 (sm_lookD [7, 8] ⟨fun z => g_5_32 (z), fun z => g_5_39 (z), trivial⟩ (by decide) (by decide)) ?_
  refine lv_iconst (v := -1) hx hb d_Row_targetAt_46 (by decide) ?_
  refine sm_ri (v := (-1 : Int32)) (ws := [(r, .inr (0, [.ref rk, .ref ra, .ref rb, .ref rc, .int (nI n)])), (rk, .inl (cI, 60, .inl fk)), (ra, .inl (cI, 60, .inl fa)), (rb, .inl (cI, 60, .inl fb)), (rc, .inl (cI, 60, .inl fc))]) hx hb hr hlocks hK (hP.sub [0, 1, 2, 3, 4] rfl) (hD.sub [0, 1, 2, 3, 4] (by decide) rfl) hS ?_ d_Row_targetAt_47
  exact ⟨((if_neg g_5_32).trans (if_neg g_5_39)).symm, rfl⟩
abbrev y_Row_isOp : MethodName := ⟨"ScanMill$Row", "isOp", "(IIII)Z"⟩
theorem d_Row_isOp_0 : decode prog_5_method_12_code 0 = .ok (.iload_n 0, 1) := by decide +kernel
theorem d_Row_isOp_1 : decode prog_5_method_12_code 1 = .ok (.tableswitch 136 0 10 #[59, 64, 64, 64, 64, 64, 91, 111, 116, 59, 59], 59) := by decide +kernel
theorem d_Row_isOp_60 : decode prog_5_method_12_code 60 = .ok (.iload_n 1, 1) := by decide +kernel
theorem d_Row_isOp_61 : decode prog_5_method_12_code 61 = .ok (.invokestatic 40, 3) := by decide +kernel
theorem mw_163 : Cond.code ⟨"ScanMill", "isValue", "(I)Z"⟩ prog_1_method_18_code 1 (Option.some FieldType.boolean) ∈ wG := wG_t 163 (by decide +kernel) (by decide +kernel)
theorem mw_1 : Cond.initialized "ScanMill" ∈ wG := wG_t 1 (by decide +kernel) (by decide +kernel)
theorem mw_162 : Cond.static ⟨"ScanMill", "isValue", "(I)Z"⟩ ∈ wG := wG_t 162 (by decide +kernel) (by decide +kernel)
theorem d_Row_isOp_64 : decode prog_5_method_12_code 64 = .ok (.ireturn, 1) := by decide +kernel
theorem d_Row_isOp_65 : decode prog_5_method_12_code 65 = .ok (.iload_n 1, 1) := by decide +kernel
theorem d_Row_isOp_66 : decode prog_5_method_12_code 66 = .ok (.invokestatic 40, 3) := by decide +kernel
theorem d_Row_isOp_69 : decode prog_5_method_12_code 69 = .ok (.ifCond .eq 21, 3) := by decide +kernel
theorem d_Row_isOp_90 : decode prog_5_method_12_code 90 = .ok (.iconst 0, 1) := by decide +kernel
theorem d_Row_isOp_91 : decode prog_5_method_12_code 91 = .ok (.ireturn, 1) := by decide +kernel
theorem d_Row_isOp_72 : decode prog_5_method_12_code 72 = .ok (.iload_n 2, 1) := by decide +kernel
theorem d_Row_isOp_73 : decode prog_5_method_12_code 73 = .ok (.invokestatic 40, 3) := by decide +kernel
theorem d_Row_isOp_76 : decode prog_5_method_12_code 76 = .ok (.ifCond .eq 14, 3) := by decide +kernel
theorem d_Row_isOp_79 : decode prog_5_method_12_code 79 = .ok (.iload_n 3, 1) := by decide +kernel
theorem d_Row_isOp_80 : decode prog_5_method_12_code 80 = .ok (.invokestatic 40, 3) := by decide +kernel
theorem d_Row_isOp_83 : decode prog_5_method_12_code 83 = .ok (.ifCond .eq 7, 3) := by decide +kernel
theorem d_Row_isOp_86 : decode prog_5_method_12_code 86 = .ok (.iconst 1, 1) := by decide +kernel
theorem d_Row_isOp_87 : decode prog_5_method_12_code 87 = .ok (.goto 4, 3) := by decide +kernel
theorem d_Row_isOp_92 : decode prog_5_method_12_code 92 = .ok (.iload_n 1, 1) := by decide +kernel
theorem d_Row_isOp_93 : decode prog_5_method_12_code 93 = .ok (.invokestatic 40, 3) := by decide +kernel
theorem d_Row_isOp_96 : decode prog_5_method_12_code 96 = .ok (.ifCond .eq 14, 3) := by decide +kernel
theorem d_Row_isOp_110 : decode prog_5_method_12_code 110 = .ok (.iconst 0, 1) := by decide +kernel
theorem d_Row_isOp_111 : decode prog_5_method_12_code 111 = .ok (.ireturn, 1) := by decide +kernel
theorem d_Row_isOp_99 : decode prog_5_method_12_code 99 = .ok (.iload_n 2, 1) := by decide +kernel
theorem d_Row_isOp_100 : decode prog_5_method_12_code 100 = .ok (.invokestatic 40, 3) := by decide +kernel
theorem d_Row_isOp_103 : decode prog_5_method_12_code 103 = .ok (.ifCond .eq 7, 3) := by decide +kernel
theorem d_Row_isOp_106 : decode prog_5_method_12_code 106 = .ok (.iconst 1, 1) := by decide +kernel
theorem d_Row_isOp_107 : decode prog_5_method_12_code 107 = .ok (.goto 4, 3) := by decide +kernel
theorem d_Row_isOp_112 : decode prog_5_method_12_code 112 = .ok (.iload_n 1, 1) := by decide +kernel
theorem d_Row_isOp_113 : decode prog_5_method_12_code 113 = .ok (.invokestatic 43, 3) := by decide +kernel
theorem mw_166 : Cond.code ⟨"ScanMill", "isTarget", "(I)Z"⟩ prog_1_method_19_code 1 (Option.some FieldType.boolean) ∈ wG := wG_t 166 (by decide +kernel) (by decide +kernel)
theorem mw_165 : Cond.static ⟨"ScanMill", "isTarget", "(I)Z"⟩ ∈ wG := wG_t 165 (by decide +kernel) (by decide +kernel)
theorem d_Row_isOp_116 : decode prog_5_method_12_code 116 = .ok (.ireturn, 1) := by decide +kernel
theorem d_Row_isOp_117 : decode prog_5_method_12_code 117 = .ok (.iload_n 1, 1) := by decide +kernel
theorem d_Row_isOp_118 : decode prog_5_method_12_code 118 = .ok (.invokestatic 40, 3) := by decide +kernel
theorem d_Row_isOp_121 : decode prog_5_method_12_code 121 = .ok (.ifCond .eq 14, 3) := by decide +kernel
theorem d_Row_isOp_135 : decode prog_5_method_12_code 135 = .ok (.iconst 0, 1) := by decide +kernel
theorem d_Row_isOp_136 : decode prog_5_method_12_code 136 = .ok (.ireturn, 1) := by decide +kernel
theorem d_Row_isOp_124 : decode prog_5_method_12_code 124 = .ok (.iload_n 2, 1) := by decide +kernel
theorem d_Row_isOp_125 : decode prog_5_method_12_code 125 = .ok (.invokestatic 43, 3) := by decide +kernel
theorem d_Row_isOp_128 : decode prog_5_method_12_code 128 = .ok (.ifCond .eq 7, 3) := by decide +kernel
theorem d_Row_isOp_131 : decode prog_5_method_12_code 131 = .ok (.iconst 1, 1) := by decide +kernel
theorem d_Row_isOp_132 : decode prog_5_method_12_code 132 = .ok (.goto 4, 3) := by decide +kernel
theorem d_Row_isOp_137 : decode prog_5_method_12_code 137 = .ok (.iload_n 0, 1) := by decide +kernel
theorem d_Row_isOp_138 : decode prog_5_method_12_code 138 = .ok (.bipush 11, 2) := by decide +kernel
theorem d_Row_isOp_140 : decode prog_5_method_12_code 140 = .ok (.if_icmp .ne 7, 3) := by decide +kernel
theorem d_Row_isOp_147 : decode prog_5_method_12_code 147 = .ok (.iconst 0, 1) := by decide +kernel
theorem d_Row_isOp_148 : decode prog_5_method_12_code 148 = .ok (.ireturn, 1) := by decide +kernel
theorem d_Row_isOp_143 : decode prog_5_method_12_code 143 = .ok (.iconst 1, 1) := by decide +kernel
theorem d_Row_isOp_144 : decode prog_5_method_12_code 144 = .ok (.goto 4, 3) := by decide +kernel
set_option maxRecDepth 100000 in
set_option maxHeartbeats 4000000 in
theorem c_Row_isOp {l : Launch} {dC : Nat → ClassId} {dI : Nat → Nat → Nat} {cI cZ : ClassId} {k va vb vc : Int32}  : sm_I l y_Row_isOp prog_5_method_12_code 4 (some .boolean) (rmF 1 20) (dC, dI) smC [(cI, .int), (cZ, .boolean)] [.int k, .int va, .int vb, .int vc] [] (fun q w2 => q = (b2i (okOp k va vb vc)) ∧ w2 = []) := by
  refine sm_I.mk (by decide) (Nat.le_of_ble_eq_true rfl) ?_
  intro p e s m below meth c A H locs ls hx hb hr ht hown hlocks hml hnm hP hK hD hA hS hN hl
  have hl : lv_has ls 4 [(0, .int k), (1, .int va), (2, .int vb), (3, .int vc)] := hl
  refine lv_iload_n hx hb d_Row_isOp_0 rfl (lv_at hl 0 rfl) ?_
  by_cases g_1_60 : k = 0 ∨ k = 9 ∨ k = 10
  · skip
    refine sm_tab (tgt := 60) hx hb d_Row_isOp_1 (by rcases g_1_60 with h | h | h <;> (rw [h]; decide)) ?_
    refine lv_iload_n hx hb d_Row_isOp_60 rfl (lv_at hl 1 rfl) ?_
    refine sm_goi (wc := []) (wr := []) (va_runSN (As := [.int va]) (rest := []) ⟨hx, hb, hml, hown, ht⟩ ((c_Mill_isValue (l := l) (dC := dC) (dI := dI) (cI := cI) (cZ := cZ) (v := va) ).at H.size) (sm_cN 1 ht mw_163 mw_1 hN.1 mw_162 rfl rfl (by decide +kernel) ⟨Nat.le_of_ble_eq_true rfl, Nat.le_of_ble_eq_true rfl⟩) (sm_preS hN hK hP hD [] rfl rfl (by decide)) rfl rfl hl.1 rfl (lv_room (Nat.le_of_ble_eq_true rfl)) d_Row_isOp_61 ⟨Nat.zero_le _, Nat.zero_le _⟩) hP hD hS hA [] [] rfl rfl (by decide) (by decide) (fun r_61 w_61 H locs q_61 hP hD hS => ?_)
    obtain ⟨rfl, rfl⟩ := q_61
    have hP : va_P (dC, dI) smC [] H := hP
    have hD : va_D A [] := hD
    refine sm_rz (v := b2i (inB va 24)) (ws := []) hx hb hr hlocks hK (hP.sub [] rfl) (hD.sub [] (by decide) rfl) hS (by first | assumption | exact b2i_01 _) ?_ d_Row_isOp_64
    exact ⟨by simp only [okOp, if_pos g_1_60] <;> simp [b2i], rfl⟩
  by_cases g_1_65 : k = 1 ∨ k = 2 ∨ k = 3 ∨ k = 4 ∨ k = 5
  · skip
    refine sm_tab (tgt := 65) hx hb d_Row_isOp_1 (by rcases g_1_65 with h | h | h | h | h <;> (rw [h]; decide)) ?_
    refine lv_iload_n hx hb d_Row_isOp_65 rfl (lv_at hl 1 rfl) ?_
    refine sm_goi (wc := []) (wr := []) (va_runSN (As := [.int va]) (rest := []) ⟨hx, hb, hml, hown, ht⟩ ((c_Mill_isValue (l := l) (dC := dC) (dI := dI) (cI := cI) (cZ := cZ) (v := va) ).at H.size) (sm_cN 1 ht mw_163 mw_1 hN.1 mw_162 rfl rfl (by decide +kernel) ⟨Nat.le_of_ble_eq_true rfl, Nat.le_of_ble_eq_true rfl⟩) (sm_preS hN hK hP hD [] rfl rfl (by decide)) rfl rfl hl.1 rfl (lv_room (Nat.le_of_ble_eq_true rfl)) d_Row_isOp_66 ⟨Nat.zero_le _, Nat.zero_le _⟩) hP hD hS hA [] [] rfl rfl (by decide) (by decide) (fun r_66 w_66 H locs q_66 hP hD hS => ?_)
    obtain ⟨rfl, rfl⟩ := q_66
    have hP : va_P (dC, dI) smC [] H := hP
    have hD : va_D A [] := hD
    refine lv_if_eq (tgt := 90) hx hb d_Row_isOp_69 (by decide) (fun c_69 => ?_) (fun c_69 => ?_)
    · skip
      have e_69 : (inB va 24) = false := b2i_eq0 c_69
      refine lv_iconst (v := 0) hx hb d_Row_isOp_90 (by decide) ?_
      refine sm_rz (v := (0 : Int32)) (ws := []) hx hb hr hlocks hK (hP.sub [] rfl) (hD.sub [] (by decide) rfl) hS (by decide) ?_ d_Row_isOp_91
      exact ⟨by simp only [okOp, if_neg g_1_60, if_pos g_1_65] <;> simp [b2i, e_69], rfl⟩
    · skip
      have e_69 : (inB va 24) = true := b2i_ne0 c_69
      refine lv_iload_n hx hb d_Row_isOp_72 rfl (lv_at hl 2 rfl) ?_
      refine sm_goi (wc := []) (wr := []) (va_runSN (As := [.int vb]) (rest := []) ⟨hx, hb, hml, hown, ht⟩ ((c_Mill_isValue (l := l) (dC := dC) (dI := dI) (cI := cI) (cZ := cZ) (v := vb) ).at H.size) (sm_cN 1 ht mw_163 mw_1 hN.1 mw_162 rfl rfl (by decide +kernel) ⟨Nat.le_of_ble_eq_true rfl, Nat.le_of_ble_eq_true rfl⟩) (sm_preS hN hK hP hD [] rfl rfl (by decide)) rfl rfl hl.1 rfl (lv_room (Nat.le_of_ble_eq_true rfl)) d_Row_isOp_73 ⟨Nat.zero_le _, Nat.zero_le _⟩) hP hD hS hA [] [] rfl rfl (by decide) (by decide) (fun r_73 w_73 H locs q_73 hP hD hS => ?_)
      obtain ⟨rfl, rfl⟩ := q_73
      have hP : va_P (dC, dI) smC [] H := hP
      have hD : va_D A [] := hD
      refine lv_if_eq (tgt := 90) hx hb d_Row_isOp_76 (by decide) (fun c_76 => ?_) (fun c_76 => ?_)
      · skip
        have e_76 : (inB vb 24) = false := b2i_eq0 c_76
        refine lv_iconst (v := 0) hx hb d_Row_isOp_90 (by decide) ?_
        refine sm_rz (v := (0 : Int32)) (ws := []) hx hb hr hlocks hK (hP.sub [] rfl) (hD.sub [] (by decide) rfl) hS (by decide) ?_ d_Row_isOp_91
        exact ⟨by simp only [okOp, if_neg g_1_60, if_pos g_1_65] <;> simp [b2i, e_69, e_76], rfl⟩
      · skip
        have e_76 : (inB vb 24) = true := b2i_ne0 c_76
        refine lv_iload_n hx hb d_Row_isOp_79 rfl (lv_at hl 3 rfl) ?_
        refine sm_goi (wc := []) (wr := []) (va_runSN (As := [.int vc]) (rest := []) ⟨hx, hb, hml, hown, ht⟩ ((c_Mill_isValue (l := l) (dC := dC) (dI := dI) (cI := cI) (cZ := cZ) (v := vc) ).at H.size) (sm_cN 1 ht mw_163 mw_1 hN.1 mw_162 rfl rfl (by decide +kernel) ⟨Nat.le_of_ble_eq_true rfl, Nat.le_of_ble_eq_true rfl⟩) (sm_preS hN hK hP hD [] rfl rfl (by decide)) rfl rfl hl.1 rfl (lv_room (Nat.le_of_ble_eq_true rfl)) d_Row_isOp_80 ⟨Nat.zero_le _, Nat.zero_le _⟩) hP hD hS hA [] [] rfl rfl (by decide) (by decide) (fun r_80 w_80 H locs q_80 hP hD hS => ?_)
        obtain ⟨rfl, rfl⟩ := q_80
        have hP : va_P (dC, dI) smC [] H := hP
        have hD : va_D A [] := hD
        refine lv_if_eq (tgt := 90) hx hb d_Row_isOp_83 (by decide) (fun c_83 => ?_) (fun c_83 => ?_)
        · skip
          have e_83 : (inB vc 24) = false := b2i_eq0 c_83
          refine lv_iconst (v := 0) hx hb d_Row_isOp_90 (by decide) ?_
          refine sm_rz (v := (0 : Int32)) (ws := []) hx hb hr hlocks hK (hP.sub [] rfl) (hD.sub [] (by decide) rfl) hS (by decide) ?_ d_Row_isOp_91
          exact ⟨by simp only [okOp, if_neg g_1_60, if_pos g_1_65] <;> simp [b2i, e_69, e_76, e_83], rfl⟩
        · skip
          have e_83 : (inB vc 24) = true := b2i_ne0 c_83
          refine lv_iconst (v := 1) hx hb d_Row_isOp_86 (by decide) ?_
          refine lv_goto (tgt := 91) hx hb d_Row_isOp_87 (by decide) ?_
          refine sm_rz (v := (1 : Int32)) (ws := []) hx hb hr hlocks hK (hP.sub [] rfl) (hD.sub [] (by decide) rfl) hS (by decide) ?_ d_Row_isOp_91
          exact ⟨by simp only [okOp, if_neg g_1_60, if_pos g_1_65] <;> simp [b2i, e_69, e_76, e_83], rfl⟩
  by_cases g_1_92 : k = 6
  · skip
    refine sm_tab (tgt := 92) hx hb d_Row_isOp_1 (by rw [g_1_92]; decide) ?_
    refine lv_iload_n hx hb d_Row_isOp_92 rfl (lv_at hl 1 rfl) ?_
    refine sm_goi (wc := []) (wr := []) (va_runSN (As := [.int va]) (rest := []) ⟨hx, hb, hml, hown, ht⟩ ((c_Mill_isValue (l := l) (dC := dC) (dI := dI) (cI := cI) (cZ := cZ) (v := va) ).at H.size) (sm_cN 1 ht mw_163 mw_1 hN.1 mw_162 rfl rfl (by decide +kernel) ⟨Nat.le_of_ble_eq_true rfl, Nat.le_of_ble_eq_true rfl⟩) (sm_preS hN hK hP hD [] rfl rfl (by decide)) rfl rfl hl.1 rfl (lv_room (Nat.le_of_ble_eq_true rfl)) d_Row_isOp_93 ⟨Nat.zero_le _, Nat.zero_le _⟩) hP hD hS hA [] [] rfl rfl (by decide) (by decide) (fun r_93 w_93 H locs q_93 hP hD hS => ?_)
    obtain ⟨rfl, rfl⟩ := q_93
    have hP : va_P (dC, dI) smC [] H := hP
    have hD : va_D A [] := hD
    refine lv_if_eq (tgt := 110) hx hb d_Row_isOp_96 (by decide) (fun c_96 => ?_) (fun c_96 => ?_)
    · skip
      have e_96 : (inB va 24) = false := b2i_eq0 c_96
      refine lv_iconst (v := 0) hx hb d_Row_isOp_110 (by decide) ?_
      refine sm_rz (v := (0 : Int32)) (ws := []) hx hb hr hlocks hK (hP.sub [] rfl) (hD.sub [] (by decide) rfl) hS (by decide) ?_ d_Row_isOp_111
      exact ⟨by simp only [okOp, if_neg g_1_60, if_neg g_1_65, if_pos g_1_92] <;> simp [b2i, e_96], rfl⟩
    · skip
      have e_96 : (inB va 24) = true := b2i_ne0 c_96
      refine lv_iload_n hx hb d_Row_isOp_99 rfl (lv_at hl 2 rfl) ?_
      refine sm_goi (wc := []) (wr := []) (va_runSN (As := [.int vb]) (rest := []) ⟨hx, hb, hml, hown, ht⟩ ((c_Mill_isValue (l := l) (dC := dC) (dI := dI) (cI := cI) (cZ := cZ) (v := vb) ).at H.size) (sm_cN 1 ht mw_163 mw_1 hN.1 mw_162 rfl rfl (by decide +kernel) ⟨Nat.le_of_ble_eq_true rfl, Nat.le_of_ble_eq_true rfl⟩) (sm_preS hN hK hP hD [] rfl rfl (by decide)) rfl rfl hl.1 rfl (lv_room (Nat.le_of_ble_eq_true rfl)) d_Row_isOp_100 ⟨Nat.zero_le _, Nat.zero_le _⟩) hP hD hS hA [] [] rfl rfl (by decide) (by decide) (fun r_100 w_100 H locs q_100 hP hD hS => ?_)
      obtain ⟨rfl, rfl⟩ := q_100
      have hP : va_P (dC, dI) smC [] H := hP
      have hD : va_D A [] := hD
      refine lv_if_eq (tgt := 110) hx hb d_Row_isOp_103 (by decide) (fun c_103 => ?_) (fun c_103 => ?_)
      · skip
        have e_103 : (inB vb 24) = false := b2i_eq0 c_103
        refine lv_iconst (v := 0) hx hb d_Row_isOp_110 (by decide) ?_
        refine sm_rz (v := (0 : Int32)) (ws := []) hx hb hr hlocks hK (hP.sub [] rfl) (hD.sub [] (by decide) rfl) hS (by decide) ?_ d_Row_isOp_111
        exact ⟨by simp only [okOp, if_neg g_1_60, if_neg g_1_65, if_pos g_1_92] <;> simp [b2i, e_96, e_103], rfl⟩
      · skip
        have e_103 : (inB vb 24) = true := b2i_ne0 c_103
        refine lv_iconst (v := 1) hx hb d_Row_isOp_106 (by decide) ?_
        refine lv_goto (tgt := 111) hx hb d_Row_isOp_107 (by decide) ?_
        refine sm_rz (v := (1 : Int32)) (ws := []) hx hb hr hlocks hK (hP.sub [] rfl) (hD.sub [] (by decide) rfl) hS (by decide) ?_ d_Row_isOp_111
        exact ⟨by simp only [okOp, if_neg g_1_60, if_neg g_1_65, if_pos g_1_92] <;> simp [b2i, e_96, e_103], rfl⟩
  by_cases g_1_112 : k = 7
  · skip
    refine sm_tab (tgt := 112) hx hb d_Row_isOp_1 (by rw [g_1_112]; decide) ?_
    refine lv_iload_n hx hb d_Row_isOp_112 rfl (lv_at hl 1 rfl) ?_
    refine sm_goi (wc := []) (wr := []) (va_runSN (As := [.int va]) (rest := []) ⟨hx, hb, hml, hown, ht⟩ ((c_Mill_isTarget (l := l) (dC := dC) (dI := dI) (cI := cI) (cZ := cZ) (v := va) ).at H.size) (sm_cN 1 ht mw_166 mw_1 hN.2.1 mw_165 rfl rfl (by decide +kernel) ⟨Nat.le_of_ble_eq_true rfl, Nat.le_of_ble_eq_true rfl⟩) (sm_preS hN hK hP hD [] rfl rfl (by decide)) rfl rfl hl.1 rfl (lv_room (Nat.le_of_ble_eq_true rfl)) d_Row_isOp_113 ⟨Nat.zero_le _, Nat.zero_le _⟩) hP hD hS hA [] [] rfl rfl (by decide) (by decide) (fun r_113 w_113 H locs q_113 hP hD hS => ?_)
    obtain ⟨rfl, rfl⟩ := q_113
    have hP : va_P (dC, dI) smC [] H := hP
    have hD : va_D A [] := hD
    refine sm_rz (v := b2i (inB va 61)) (ws := []) hx hb hr hlocks hK (hP.sub [] rfl) (hD.sub [] (by decide) rfl) hS (by first | assumption | exact b2i_01 _) ?_ d_Row_isOp_116
    exact ⟨by simp only [okOp, if_neg g_1_60, if_neg g_1_65, if_neg g_1_92, if_pos g_1_112] <;> simp [b2i], rfl⟩
  by_cases g_1_117 : k = 8
  · skip
    refine sm_tab (tgt := 117) hx hb d_Row_isOp_1 (by rw [g_1_117]; decide) ?_
    refine lv_iload_n hx hb d_Row_isOp_117 rfl (lv_at hl 1 rfl) ?_
    refine sm_goi (wc := []) (wr := []) (va_runSN (As := [.int va]) (rest := []) ⟨hx, hb, hml, hown, ht⟩ ((c_Mill_isValue (l := l) (dC := dC) (dI := dI) (cI := cI) (cZ := cZ) (v := va) ).at H.size) (sm_cN 1 ht mw_163 mw_1 hN.1 mw_162 rfl rfl (by decide +kernel) ⟨Nat.le_of_ble_eq_true rfl, Nat.le_of_ble_eq_true rfl⟩) (sm_preS hN hK hP hD [] rfl rfl (by decide)) rfl rfl hl.1 rfl (lv_room (Nat.le_of_ble_eq_true rfl)) d_Row_isOp_118 ⟨Nat.zero_le _, Nat.zero_le _⟩) hP hD hS hA [] [] rfl rfl (by decide) (by decide) (fun r_118 w_118 H locs q_118 hP hD hS => ?_)
    obtain ⟨rfl, rfl⟩ := q_118
    have hP : va_P (dC, dI) smC [] H := hP
    have hD : va_D A [] := hD
    refine lv_if_eq (tgt := 135) hx hb d_Row_isOp_121 (by decide) (fun c_121 => ?_) (fun c_121 => ?_)
    · skip
      have e_121 : (inB va 24) = false := b2i_eq0 c_121
      refine lv_iconst (v := 0) hx hb d_Row_isOp_135 (by decide) ?_
      refine sm_rz (v := (0 : Int32)) (ws := []) hx hb hr hlocks hK (hP.sub [] rfl) (hD.sub [] (by decide) rfl) hS (by decide) ?_ d_Row_isOp_136
      exact ⟨by simp only [okOp, if_neg g_1_60, if_neg g_1_65, if_neg g_1_92, if_neg g_1_112, if_pos g_1_117] <;> simp [b2i, e_121], rfl⟩
    · skip
      have e_121 : (inB va 24) = true := b2i_ne0 c_121
      refine lv_iload_n hx hb d_Row_isOp_124 rfl (lv_at hl 2 rfl) ?_
      refine sm_goi (wc := []) (wr := []) (va_runSN (As := [.int vb]) (rest := []) ⟨hx, hb, hml, hown, ht⟩ ((c_Mill_isTarget (l := l) (dC := dC) (dI := dI) (cI := cI) (cZ := cZ) (v := vb) ).at H.size) (sm_cN 1 ht mw_166 mw_1 hN.2.1 mw_165 rfl rfl (by decide +kernel) ⟨Nat.le_of_ble_eq_true rfl, Nat.le_of_ble_eq_true rfl⟩) (sm_preS hN hK hP hD [] rfl rfl (by decide)) rfl rfl hl.1 rfl (lv_room (Nat.le_of_ble_eq_true rfl)) d_Row_isOp_125 ⟨Nat.zero_le _, Nat.zero_le _⟩) hP hD hS hA [] [] rfl rfl (by decide) (by decide) (fun r_125 w_125 H locs q_125 hP hD hS => ?_)
      obtain ⟨rfl, rfl⟩ := q_125
      have hP : va_P (dC, dI) smC [] H := hP
      have hD : va_D A [] := hD
      refine lv_if_eq (tgt := 135) hx hb d_Row_isOp_128 (by decide) (fun c_128 => ?_) (fun c_128 => ?_)
      · skip
        have e_128 : (inB vb 61) = false := b2i_eq0 c_128
        refine lv_iconst (v := 0) hx hb d_Row_isOp_135 (by decide) ?_
        refine sm_rz (v := (0 : Int32)) (ws := []) hx hb hr hlocks hK (hP.sub [] rfl) (hD.sub [] (by decide) rfl) hS (by decide) ?_ d_Row_isOp_136
        exact ⟨by simp only [okOp, if_neg g_1_60, if_neg g_1_65, if_neg g_1_92, if_neg g_1_112, if_pos g_1_117] <;> simp [b2i, e_121, e_128], rfl⟩
      · skip
        have e_128 : (inB vb 61) = true := b2i_ne0 c_128
        refine lv_iconst (v := 1) hx hb d_Row_isOp_131 (by decide) ?_
        refine lv_goto (tgt := 136) hx hb d_Row_isOp_132 (by decide) ?_
        refine sm_rz (v := (1 : Int32)) (ws := []) hx hb hr hlocks hK (hP.sub [] rfl) (hD.sub [] (by decide) rfl) hS (by decide) ?_ d_Row_isOp_136
        exact ⟨by simp only [okOp, if_neg g_1_60, if_neg g_1_65, if_neg g_1_92, if_neg g_1_112, if_pos g_1_117] <;> simp [b2i, e_121, e_128], rfl⟩
  refine sm_tab (tgt := 137) hx hb d_Row_isOp_1 (sm_tabD [0, 9, 10, 1, 2, 3, 4, 5, 6, 7, 8] ⟨fun z => g_1_60 (Or.inl z), fun z => g_1_60 (Or.inr (Or.inl z)), fun z => g_1_60 (Or.inr (Or.inr (z))), fun z => g_1_65 (Or.inl z), fun z => g_1_65 (Or.inr (Or.inl z)), fun z => g_1_65 (Or.inr (Or.inr (Or.inl z))), fun z => g_1_65 (Or.inr (Or.inr (Or.inr (Or.inl z)))), fun z => g_1_65 (Or.inr (Or.inr (Or.inr (Or.inr (z))))), fun z => g_1_92 (z), fun z => g_1_112 (z), fun z => g_1_117 (z), trivial⟩ (by decide) (by decide)) ?_
  refine lv_iload_n hx hb d_Row_isOp_137 rfl (lv_at hl 0 rfl) ?_
  refine lv_bipush (v := 11) hx hb d_Row_isOp_138 (by decide) ?_
  refine lv_icmp_ne (tgt := 147) hx hb d_Row_isOp_140 (by decide) (fun c_140 => ?_) (fun c_140 => ?_)
  · skip
    refine lv_iconst (v := 0) hx hb d_Row_isOp_147 (by decide) ?_
    refine sm_rz (v := (0 : Int32)) (ws := []) hx hb hr hlocks hK (hP.sub [] rfl) (hD.sub [] (by decide) rfl) hS (by decide) ?_ d_Row_isOp_148
    exact ⟨by simp only [okOp, if_neg g_1_60, if_neg g_1_65, if_neg g_1_92, if_neg g_1_112, if_neg g_1_117] <;> simp [b2i, c_140], rfl⟩
  · skip
    refine lv_iconst (v := 1) hx hb d_Row_isOp_143 (by decide) ?_
    refine lv_goto (tgt := 148) hx hb d_Row_isOp_144 (by decide) ?_
    refine sm_rz (v := (1 : Int32)) (ws := []) hx hb hr hlocks hK (hP.sub [] rfl) (hD.sub [] (by decide) rfl) hS (by decide) ?_ d_Row_isOp_148
    exact ⟨by simp only [okOp, if_neg g_1_60, if_neg g_1_65, if_neg g_1_92, if_neg g_1_112, if_neg g_1_117] <;> simp [b2i, c_140], rfl⟩
abbrev y_Row_append : MethodName := ⟨"ScanMill$Row", "append", "(IIII)I"⟩
theorem d_Row_append_0 : decode prog_5_method_4_code 0 = .ok (.aload_n 0, 1) := by decide +kernel
theorem d_Row_append_1 : decode prog_5_method_4_code 1 = .ok (.getfield 24, 3) := by decide +kernel
theorem d_Row_append_4 : decode prog_5_method_4_code 4 = .ok (.bipush 60, 2) := by decide +kernel
theorem d_Row_append_6 : decode prog_5_method_4_code 6 = .ok (.if_icmp .ge 14, 3) := by decide +kernel
theorem d_Row_append_20 : decode prog_5_method_4_code 20 = .ok (.iconst (-1), 1) := by decide +kernel
theorem d_Row_append_21 : decode prog_5_method_4_code 21 = .ok (.ireturn, 1) := by decide +kernel
theorem d_Row_append_9 : decode prog_5_method_4_code 9 = .ok (.iload_n 1, 1) := by decide +kernel
theorem d_Row_append_10 : decode prog_5_method_4_code 10 = .ok (.iload_n 2, 1) := by decide +kernel
theorem d_Row_append_11 : decode prog_5_method_4_code 11 = .ok (.iload_n 3, 1) := by decide +kernel
theorem d_Row_append_12 : decode prog_5_method_4_code 12 = .ok (.iload 4, 2) := by decide +kernel
theorem d_Row_append_14 : decode prog_5_method_4_code 14 = .ok (.invokestatic 28, 3) := by decide +kernel
theorem mw_160 : Cond.code ⟨"ScanMill$Row", "isOp", "(IIII)Z"⟩ prog_5_method_12_code 4 (Option.some FieldType.boolean) ∈ wG := wG_t 160 (by decide +kernel) (by decide +kernel)
theorem mw_159 : Cond.static ⟨"ScanMill$Row", "isOp", "(IIII)Z"⟩ ∈ wG := wG_t 159 (by decide +kernel) (by decide +kernel)
theorem mw_158 : Cond.methodLink "ScanMill$Row" 28 ⟨"ScanMill$Row", "isOp", "(IIII)Z"⟩ ∈ wG := wG_t 158 (by decide +kernel) (by decide +kernel)
theorem d_Row_append_17 : decode prog_5_method_4_code 17 = .ok (.ifCond .ne 5, 3) := by decide +kernel
theorem d_Row_append_22 : decode prog_5_method_4_code 22 = .ok (.aload_n 0, 1) := by decide +kernel
theorem d_Row_append_23 : decode prog_5_method_4_code 23 = .ok (.getfield 24, 3) := by decide +kernel
theorem d_Row_append_26 : decode prog_5_method_4_code 26 = .ok (.istore 5, 2) := by decide +kernel
theorem d_Row_append_28 : decode prog_5_method_4_code 28 = .ok (.aload_n 0, 1) := by decide +kernel
theorem d_Row_append_29 : decode prog_5_method_4_code 29 = .ok (.getfield 9, 3) := by decide +kernel
theorem d_Row_append_32 : decode prog_5_method_4_code 32 = .ok (.iload 5, 2) := by decide +kernel
theorem d_Row_append_34 : decode prog_5_method_4_code 34 = .ok (.iload_n 1, 1) := by decide +kernel
theorem d_Row_append_35 : decode prog_5_method_4_code 35 = .ok (.iastore, 1) := by decide +kernel
theorem d_Row_append_36 : decode prog_5_method_4_code 36 = .ok (.aload_n 0, 1) := by decide +kernel
theorem d_Row_append_37 : decode prog_5_method_4_code 37 = .ok (.getfield 15, 3) := by decide +kernel
theorem d_Row_append_40 : decode prog_5_method_4_code 40 = .ok (.iload 5, 2) := by decide +kernel
theorem d_Row_append_42 : decode prog_5_method_4_code 42 = .ok (.iload_n 2, 1) := by decide +kernel
theorem d_Row_append_43 : decode prog_5_method_4_code 43 = .ok (.iastore, 1) := by decide +kernel
theorem d_Row_append_44 : decode prog_5_method_4_code 44 = .ok (.aload_n 0, 1) := by decide +kernel
theorem d_Row_append_45 : decode prog_5_method_4_code 45 = .ok (.getfield 18, 3) := by decide +kernel
theorem d_Row_append_48 : decode prog_5_method_4_code 48 = .ok (.iload 5, 2) := by decide +kernel
theorem d_Row_append_50 : decode prog_5_method_4_code 50 = .ok (.iload_n 3, 1) := by decide +kernel
theorem d_Row_append_51 : decode prog_5_method_4_code 51 = .ok (.iastore, 1) := by decide +kernel
theorem d_Row_append_52 : decode prog_5_method_4_code 52 = .ok (.aload_n 0, 1) := by decide +kernel
theorem d_Row_append_53 : decode prog_5_method_4_code 53 = .ok (.getfield 21, 3) := by decide +kernel
theorem d_Row_append_56 : decode prog_5_method_4_code 56 = .ok (.iload 5, 2) := by decide +kernel
theorem d_Row_append_58 : decode prog_5_method_4_code 58 = .ok (.iload 4, 2) := by decide +kernel
theorem d_Row_append_60 : decode prog_5_method_4_code 60 = .ok (.iastore, 1) := by decide +kernel
theorem d_Row_append_61 : decode prog_5_method_4_code 61 = .ok (.aload_n 0, 1) := by decide +kernel
theorem d_Row_append_62 : decode prog_5_method_4_code 62 = .ok (.dup, 1) := by decide +kernel
theorem d_Row_append_63 : decode prog_5_method_4_code 63 = .ok (.getfield 24, 3) := by decide +kernel
theorem d_Row_append_66 : decode prog_5_method_4_code 66 = .ok (.iconst 1, 1) := by decide +kernel
theorem d_Row_append_67 : decode prog_5_method_4_code 67 = .ok (.iadd, 1) := by decide +kernel
theorem d_Row_append_68 : decode prog_5_method_4_code 68 = .ok (.putfield 24, 3) := by decide +kernel
theorem d_Row_append_71 : decode prog_5_method_4_code 71 = .ok (.iload 5, 2) := by decide +kernel
theorem d_Row_append_73 : decode prog_5_method_4_code 73 = .ok (.ireturn, 1) := by decide +kernel
set_option maxRecDepth 100000 in
set_option maxHeartbeats 4000000 in
theorem c_Row_append {l : Launch} {dC : Nat → ClassId} {dI : Nat → Nat → Nat} {cI cZ : ClassId} {r rk ra rb rc n : Nat} {fk fa fb fc : Nat → Int32} {k va vb vc : Int32} (hn : n ≤ 60) : sm_I l y_Row_append prog_5_method_4_code 6 (some .int) (rmF 2 43) (dC, dI) smC [(cI, .int), (cZ, .boolean)] [.ref r, .int k, .int va, .int vb, .int vc] [(r, .inr (0, [.ref rk, .ref ra, .ref rb, .ref rc, .int (nI n)])), (rk, .inl (cI, 60, .inl fk)), (ra, .inl (cI, 60, .inl fa)), (rb, .inl (cI, 60, .inl fb)), (rc, .inl (cI, 60, .inl fc))] (fun q w2 => (n < 60 ∧ okOp k va vb vc = true ∧ q = (nI n) ∧ w2 = [(r, .inr (0, [.ref rk, .ref ra, .ref rb, .ref rc, .int (nI (n + 1))])), (rk, .inl (cI, 60, .inl (upd fk n k))), (ra, .inl (cI, 60, .inl (upd fa n va))), (rb, .inl (cI, 60, .inl (upd fb n vb))), (rc, .inl (cI, 60, .inl (upd fc n vc)))]) ∨ (¬ (n < 60 ∧ okOp k va vb vc = true) ∧ q = ((-1 : Int32)) ∧ w2 = [(r, .inr (0, [.ref rk, .ref ra, .ref rb, .ref rc, .int (nI n)])), (rk, .inl (cI, 60, .inl fk)), (ra, .inl (cI, 60, .inl fa)), (rb, .inl (cI, 60, .inl fb)), (rc, .inl (cI, 60, .inl fc))])) := by
  refine sm_I.mk (by decide) (Nat.le_of_ble_eq_true rfl) ?_
  intro p e s m below meth c A H locs ls hx hb hr ht hown hlocks hml hnm hP hK hD hA hS hN hl
  have hl : lv_has ls 6 [(0, .ref r), (1, .int k), (2, .int va), (3, .int vb), (4, .int vc)] := hl
  refine lv_aload_n hx hb d_Row_append_0 rfl (lv_at hl 0 rfl) ?_
  refine va_get (D := (dC, dI)) (ci := 0) (v := .int (nI n)) (C := R_Row) (T := T_Row) (N := 5) hx hb ht i_Row hown hK hP 0 rfl rfl 4 (by decide) (ht _ mw_33) (fun _ h9 => h9) rfl d_Row_append_1 ?_
  refine lv_bipush (v := 60) hx hb d_Row_append_4 (by decide) ?_
  refine lv_icmp_ge (tgt := 20) hx hb d_Row_append_6 (by decide) (fun c_6 => ?_) (fun c_6 => ?_)
  · skip
    have f_6 : 60 ≤ n := (nI_leI (a := 60) (b := n) (by first | omega | decide) (by first | omega | decide)).mp c_6
    refine lv_iconst (v := -1) hx hb d_Row_append_20 (by decide) ?_
    refine sm_ri (v := (-1 : Int32)) (ws := [(r, .inr (0, [.ref rk, .ref ra, .ref rb, .ref rc, .int (nI n)])), (rk, .inl (cI, 60, .inl fk)), (ra, .inl (cI, 60, .inl fa)), (rb, .inl (cI, 60, .inl fb)), (rc, .inl (cI, 60, .inl fc))]) hx hb hr hlocks hK (hP.sub [0, 1, 2, 3, 4] rfl) (hD.sub [0, 1, 2, 3, 4] (by decide) rfl) hS ?_ d_Row_append_21
    exact Or.inr ⟨fun z => by omega, rfl, rfl⟩
  · skip
    have f_6 : ¬ 60 ≤ n := fun z => c_6 ((nI_leI (a := 60) (b := n) (by first | omega | decide) (by first | omega | decide)).mpr z)
    refine lv_iload_n hx hb d_Row_append_9 rfl (lv_at hl 1 rfl) ?_
    refine lv_iload_n hx hb d_Row_append_10 rfl (lv_at hl 2 rfl) ?_
    refine lv_iload_n hx hb d_Row_append_11 rfl (lv_at hl 3 rfl) ?_
    refine lv_iload hx hb d_Row_append_12 (lv_at hl 4 rfl) ?_
    refine sm_goi (wc := []) (wr := [(r, .inr (0, [.ref rk, .ref ra, .ref rb, .ref rc, .int (nI n)])), (rk, .inl (cI, 60, .inl fk)), (ra, .inl (cI, 60, .inl fa)), (rb, .inl (cI, 60, .inl fb)), (rc, .inl (cI, 60, .inl fc))]) (va_runS (As := [.int k, .int va, .int vb, .int vc]) (rest := []) ⟨hx, hb, hml, hown, ht⟩ ((c_Row_isOp (l := l) (dC := dC) (dI := dI) (cI := cI) (cZ := cZ) (k := k) (va := va) (vb := vb) (vc := vc) ).at H.size) (sm_cS 4 ht mw_160 mw_2 mw_158 mw_159 rfl rfl (by decide +kernel) ⟨Nat.le_of_ble_eq_true rfl, Nat.le_of_ble_eq_true rfl⟩) (sm_preS hN hK hP hD [] rfl rfl (by decide)) rfl rfl hl.1 rfl (lv_room (Nat.le_of_ble_eq_true rfl)) d_Row_append_14 ⟨Nat.zero_le _, Nat.zero_le _⟩) hP hD hS hA [] [0, 1, 2, 3, 4] rfl rfl (by decide) (by decide) (fun r_14 w_14 H locs q_14 hP hD hS => ?_)
    obtain ⟨rfl, rfl⟩ := q_14
    have hP : va_P (dC, dI) smC [(r, .inr (0, [.ref rk, .ref ra, .ref rb, .ref rc, .int (nI n)])), (rk, .inl (cI, 60, .inl fk)), (ra, .inl (cI, 60, .inl fa)), (rb, .inl (cI, 60, .inl fb)), (rc, .inl (cI, 60, .inl fc))] H := hP
    have hD : va_D A [(r, .inr (0, [.ref rk, .ref ra, .ref rb, .ref rc, .int (nI n)])), (rk, .inl (cI, 60, .inl fk)), (ra, .inl (cI, 60, .inl fa)), (rb, .inl (cI, 60, .inl fb)), (rc, .inl (cI, 60, .inl fc))] := hD
    refine lv_if_ne (tgt := 22) hx hb d_Row_append_17 (by decide) (fun c_17 => ?_) (fun c_17 => ?_)
    · skip
      have e_17 : (okOp k va vb vc) = true := b2i_ne0 c_17
      refine lv_aload_n hx hb d_Row_append_22 rfl (lv_at hl 0 rfl) ?_
      refine va_get (D := (dC, dI)) (ci := 0) (v := .int (nI n)) (C := R_Row) (T := T_Row) (N := 5) hx hb ht i_Row hown hK hP 0 rfl rfl 4 (by decide) (ht _ mw_33) (fun _ h9 => h9) rfl d_Row_append_23 ?_
      refine lv_istore (lv' := [(5, .int (nI n)), (0, .ref r), (1, .int k), (2, .int va), (3, .int vb), (4, .int vc)]) hx hb d_Row_append_26 hl (by decide) rfl (fun ls hl => ?_)
      refine lv_aload_n hx hb d_Row_append_28 rfl (lv_at hl 1 rfl) ?_
      refine va_get (D := (dC, dI)) (ci := 0) (v := .ref rk) (C := R_Row) (T := T_Row) (N := 5) hx hb ht i_Row hown hK hP 0 rfl rfl 0 (by decide) (ht _ mw_29) (fun _ h9 => h9) rfl d_Row_append_29 ?_
      refine lv_iload hx hb d_Row_append_32 (lv_at hl 0 rfl) ?_
      refine lv_iload_n hx hb d_Row_append_34 rfl (lv_at hl 2 rfl) ?_
      refine sm_iast (j := n) hx hb hK hP hD hS 1 0 rfl rfl (vp_in_nI (by first | omega | assumption) (by decide)) (nI_clamp (by first | omega | (have := sm_lt31; omega))) d_Row_append_35 (fun H locs hP hD hS => ?_)
      have hP : va_P (dC, dI) smC [(r, .inr (0, [.ref rk, .ref ra, .ref rb, .ref rc, .int (nI n)])), (rk, .inl (cI, 60, .inl (upd fk n k))), (ra, .inl (cI, 60, .inl fa)), (rb, .inl (cI, 60, .inl fb)), (rc, .inl (cI, 60, .inl fc))] H := hP
      have hD : va_D A [(r, .inr (0, [.ref rk, .ref ra, .ref rb, .ref rc, .int (nI n)])), (rk, .inl (cI, 60, .inl (upd fk n k))), (ra, .inl (cI, 60, .inl fa)), (rb, .inl (cI, 60, .inl fb)), (rc, .inl (cI, 60, .inl fc))] := hD
      refine lv_aload_n hx hb d_Row_append_36 rfl (lv_at hl 1 rfl) ?_
      refine va_get (D := (dC, dI)) (ci := 0) (v := .ref ra) (C := R_Row) (T := T_Row) (N := 5) hx hb ht i_Row hown hK hP 0 rfl rfl 1 (by decide) (ht _ mw_30) (fun _ h9 => h9) rfl d_Row_append_37 ?_
      refine lv_iload hx hb d_Row_append_40 (lv_at hl 0 rfl) ?_
      refine lv_iload_n hx hb d_Row_append_42 rfl (lv_at hl 3 rfl) ?_
      refine sm_iast (j := n) hx hb hK hP hD hS 2 0 rfl rfl (vp_in_nI (by first | omega | assumption) (by decide)) (nI_clamp (by first | omega | (have := sm_lt31; omega))) d_Row_append_43 (fun H locs hP hD hS => ?_)
      have hP : va_P (dC, dI) smC [(r, .inr (0, [.ref rk, .ref ra, .ref rb, .ref rc, .int (nI n)])), (rk, .inl (cI, 60, .inl (upd fk n k))), (ra, .inl (cI, 60, .inl (upd fa n va))), (rb, .inl (cI, 60, .inl fb)), (rc, .inl (cI, 60, .inl fc))] H := hP
      have hD : va_D A [(r, .inr (0, [.ref rk, .ref ra, .ref rb, .ref rc, .int (nI n)])), (rk, .inl (cI, 60, .inl (upd fk n k))), (ra, .inl (cI, 60, .inl (upd fa n va))), (rb, .inl (cI, 60, .inl fb)), (rc, .inl (cI, 60, .inl fc))] := hD
      refine lv_aload_n hx hb d_Row_append_44 rfl (lv_at hl 1 rfl) ?_
      refine va_get (D := (dC, dI)) (ci := 0) (v := .ref rb) (C := R_Row) (T := T_Row) (N := 5) hx hb ht i_Row hown hK hP 0 rfl rfl 2 (by decide) (ht _ mw_31) (fun _ h9 => h9) rfl d_Row_append_45 ?_
      refine lv_iload hx hb d_Row_append_48 (lv_at hl 0 rfl) ?_
      refine lv_iload_n hx hb d_Row_append_50 rfl (lv_at hl 4 rfl) ?_
      refine sm_iast (j := n) hx hb hK hP hD hS 3 0 rfl rfl (vp_in_nI (by first | omega | assumption) (by decide)) (nI_clamp (by first | omega | (have := sm_lt31; omega))) d_Row_append_51 (fun H locs hP hD hS => ?_)
      have hP : va_P (dC, dI) smC [(r, .inr (0, [.ref rk, .ref ra, .ref rb, .ref rc, .int (nI n)])), (rk, .inl (cI, 60, .inl (upd fk n k))), (ra, .inl (cI, 60, .inl (upd fa n va))), (rb, .inl (cI, 60, .inl (upd fb n vb))), (rc, .inl (cI, 60, .inl fc))] H := hP
      have hD : va_D A [(r, .inr (0, [.ref rk, .ref ra, .ref rb, .ref rc, .int (nI n)])), (rk, .inl (cI, 60, .inl (upd fk n k))), (ra, .inl (cI, 60, .inl (upd fa n va))), (rb, .inl (cI, 60, .inl (upd fb n vb))), (rc, .inl (cI, 60, .inl fc))] := hD
      refine lv_aload_n hx hb d_Row_append_52 rfl (lv_at hl 1 rfl) ?_
      refine va_get (D := (dC, dI)) (ci := 0) (v := .ref rc) (C := R_Row) (T := T_Row) (N := 5) hx hb ht i_Row hown hK hP 0 rfl rfl 3 (by decide) (ht _ mw_32) (fun _ h9 => h9) rfl d_Row_append_53 ?_
      refine lv_iload hx hb d_Row_append_56 (lv_at hl 0 rfl) ?_
      refine lv_iload hx hb d_Row_append_58 (lv_at hl 5 rfl) ?_
      refine sm_iast (j := n) hx hb hK hP hD hS 4 0 rfl rfl (vp_in_nI (by first | omega | assumption) (by decide)) (nI_clamp (by first | omega | (have := sm_lt31; omega))) d_Row_append_60 (fun H locs hP hD hS => ?_)
      have hP : va_P (dC, dI) smC [(r, .inr (0, [.ref rk, .ref ra, .ref rb, .ref rc, .int (nI n)])), (rk, .inl (cI, 60, .inl (upd fk n k))), (ra, .inl (cI, 60, .inl (upd fa n va))), (rb, .inl (cI, 60, .inl (upd fb n vb))), (rc, .inl (cI, 60, .inl (upd fc n vc)))] H := hP
      have hD : va_D A [(r, .inr (0, [.ref rk, .ref ra, .ref rb, .ref rc, .int (nI n)])), (rk, .inl (cI, 60, .inl (upd fk n k))), (ra, .inl (cI, 60, .inl (upd fa n va))), (rb, .inl (cI, 60, .inl (upd fb n vb))), (rc, .inl (cI, 60, .inl (upd fc n vc)))] := hD
      refine lv_aload_n hx hb d_Row_append_61 rfl (lv_at hl 1 rfl) ?_
      refine lv_dup hx hb d_Row_append_62 rfl ?_
      refine va_get (D := (dC, dI)) (ci := 0) (v := .int (nI n)) (C := R_Row) (T := T_Row) (N := 5) hx hb ht i_Row hown hK hP 0 rfl rfl 4 (by decide) (ht _ mw_33) (fun _ h9 => h9) rfl d_Row_append_63 ?_
      refine lv_iconst (v := 1) hx hb d_Row_append_66 (by decide) ?_
      refine lv_iadd hx hb d_Row_append_67 ?_
      refine sm_re (nI_add n 1) ?_
      refine va_put (D := (dC, dI)) (ci := 0) (v := .int (nI (n + 1))) (ty := .int) (C := R_Row) (T := T_Row) (N := 5) hx hb ht i_Row t_Row t_Row_ok n_Row hown hK hP hD hS 0 rfl rfl 4 (by decide) (ht _ mw_33) (fun _ h9 => h9) rfl (by decide +kernel) rfl rfl (Nat.le_of_ble_eq_true rfl) d_Row_append_68 (fun H locs hP hD hS => ?_)
      have hP : va_P (dC, dI) smC [(r, .inr (0, [.ref rk, .ref ra, .ref rb, .ref rc, .int (nI (n + 1))])), (rk, .inl (cI, 60, .inl (upd fk n k))), (ra, .inl (cI, 60, .inl (upd fa n va))), (rb, .inl (cI, 60, .inl (upd fb n vb))), (rc, .inl (cI, 60, .inl (upd fc n vc)))] H := hP
      have hD : va_D A [(r, .inr (0, [.ref rk, .ref ra, .ref rb, .ref rc, .int (nI (n + 1))])), (rk, .inl (cI, 60, .inl (upd fk n k))), (ra, .inl (cI, 60, .inl (upd fa n va))), (rb, .inl (cI, 60, .inl (upd fb n vb))), (rc, .inl (cI, 60, .inl (upd fc n vc)))] := hD
      refine lv_iload hx hb d_Row_append_71 (lv_at hl 0 rfl) ?_
      refine sm_ri (v := nI n) (ws := [(r, .inr (0, [.ref rk, .ref ra, .ref rb, .ref rc, .int (nI (n + 1))])), (rk, .inl (cI, 60, .inl (upd fk n k))), (ra, .inl (cI, 60, .inl (upd fa n va))), (rb, .inl (cI, 60, .inl (upd fb n vb))), (rc, .inl (cI, 60, .inl (upd fc n vc)))]) hx hb hr hlocks hK (hP.sub [0, 1, 2, 3, 4] rfl) (hD.sub [0, 1, 2, 3, 4] (by decide) rfl) hS ?_ d_Row_append_73
      exact Or.inl ⟨by omega, e_17, rfl, rfl⟩
    · skip
      have e_17 : (okOp k va vb vc) = false := b2i_eq0 c_17
      refine lv_iconst (v := -1) hx hb d_Row_append_20 (by decide) ?_
      refine sm_ri (v := (-1 : Int32)) (ws := [(r, .inr (0, [.ref rk, .ref ra, .ref rb, .ref rc, .int (nI n)])), (rk, .inl (cI, 60, .inl fk)), (ra, .inl (cI, 60, .inl fa)), (rb, .inl (cI, 60, .inl fb)), (rc, .inl (cI, 60, .inl fc))]) hx hb hr hlocks hK (hP.sub [0, 1, 2, 3, 4] rfl) (hD.sub [0, 1, 2, 3, 4] (by decide) rfl) hS ?_ d_Row_append_21
      exact Or.inr ⟨fun z => by rw [e_17] at z; exact absurd z.2 (by decide), rfl, rfl⟩
end
