def R_Row : String := "ScanMill$Row"
def T_Row : u_T := fun k => match k with
  | 0 => ("ScanMill$Row", "kinds", "[I", true)
  | 1 => ("ScanMill$Row", "as", "[I", true)
  | 2 => ("ScanMill$Row", "bs", "[I", true)
  | 3 => ("ScanMill$Row", "cs", "[I", true)
  | _ => ("ScanMill$Row", "count", "I", false)
def t_Row : Nat → FieldType := fun k => match k with
  | 0 => .array .int
  | 1 => .array .int
  | 2 => .array .int
  | 3 => .array .int
  | _ => .int
theorem n_Row : ∀ a, a < 5 → ∀ b, b < 5 → a ≠ b → (T_Row a).2.1 ≠ (T_Row b).2.1 := by decide +kernel
theorem t_Row_ok : ∀ k, k < 5 → parseFieldDescriptor (T_Row k).2.2.1 = some (t_Row k) := by decide +kernel
theorem i_Row : ∀ w ∈ u_ws R_Row T_Row 5, w ∈ wG := by decide +kernel
def R_Liv : String := "ScanMill$Liveness"
def T_Liv : u_T := fun k => match k with
  | 0 => ("ScanMill$Liveness", "ahead", "[I", true)
  | _ => ("ScanMill$Liveness", "stale", "Z", false)
def t_Liv : Nat → FieldType := fun k => match k with
  | 0 => .array .int
  | _ => .boolean
theorem n_Liv : ∀ a, a < 2 → ∀ b, b < 2 → a ≠ b → (T_Liv a).2.1 ≠ (T_Liv b).2.1 := by decide +kernel
theorem t_Liv_ok : ∀ k, k < 2 → parseFieldDescriptor (T_Liv k).2.2.1 = some (t_Liv k) := by decide +kernel
theorem i_Liv : ∀ w ∈ u_ws R_Liv T_Liv 2, w ∈ wG := by decide +kernel
def R_Plc : String := "ScanMill$Places"
def T_Plc : u_T := fun k => match k with
  | 0 => ("ScanMill$Places", "firsts", "[I", true)
  | 1 => ("ScanMill$Places", "lasts", "[I", true)
  | 2 => ("ScanMill$Places", "overCall", "[Z", true)
  | 3 => ("ScanMill$Places", "registers", "[I", true)
  | 4 => ("ScanMill$Places", "slots", "[I", true)
  | 5 => ("ScanMill$Places", "order", "[I", true)
  | 6 => ("ScanMill$Places", "registerHolders", "[I", true)
  | 7 => ("ScanMill$Places", "slotHolders", "[I", true)
  | 8 => ("ScanMill$Places", "ordered", "I", false)
  | 9 => ("ScanMill$Places", "registerCount", "I", false)
  | _ => ("ScanMill$Places", "slotCount", "I", false)
def t_Plc : Nat → FieldType := fun k => match k with
  | 0 => .array .int
  | 1 => .array .int
  | 2 => .array .boolean
  | 3 => .array .int
  | 4 => .array .int
  | 5 => .array .int
  | 6 => .array .int
  | 7 => .array .int
  | 8 => .int
  | 9 => .int
  | _ => .int
theorem n_Plc : ∀ a, a < 11 → ∀ b, b < 11 → a ≠ b → (T_Plc a).2.1 ≠ (T_Plc b).2.1 := by decide +kernel
theorem t_Plc_ok : ∀ k, k < 11 → parseFieldDescriptor (T_Plc k).2.2.1 = some (t_Plc k) := by decide +kernel
theorem i_Plc : ∀ w ∈ u_ws R_Plc T_Plc 11, w ∈ wG := by decide +kernel
def R_Mac : String := "ScanMill$Machine"
def T_Mac : u_T := fun k => match k with
  | 0 => ("ScanMill$Machine", "registers", "[I", true)
  | 1 => ("ScanMill$Machine", "slots", "[I", true)
  | 2 => ("ScanMill$Machine", "outputs", "[I", true)
  | 3 => ("ScanMill$Machine", "next", "I", false)
  | 4 => ("ScanMill$Machine", "steps", "I", false)
  | 5 => ("ScanMill$Machine", "calls", "I", false)
  | _ => ("ScanMill$Machine", "putOut", "I", false)
def t_Mac : Nat → FieldType := fun k => match k with
  | 0 => .array .int
  | 1 => .array .int
  | 2 => .array .int
  | 3 => .int
  | 4 => .int
  | 5 => .int
  | _ => .int
theorem n_Mac : ∀ a, a < 7 → ∀ b, b < 7 → a ≠ b → (T_Mac a).2.1 ≠ (T_Mac b).2.1 := by decide +kernel
theorem t_Mac_ok : ∀ k, k < 7 → parseFieldDescriptor (T_Mac k).2.2.1 = some (t_Mac k) := by decide +kernel
theorem i_Mac : ∀ w ∈ u_ws R_Mac T_Mac 7, w ∈ wG := by decide +kernel
def R_Mill : String := "ScanMill"
def T_Mill : u_T := fun k => match k with
  | 0 => ("ScanMill", "row", "LScanMill$Row;", true)
  | 1 => ("ScanMill", "liveness", "LScanMill$Liveness;", true)
  | 2 => ("ScanMill", "places", "LScanMill$Places;", true)
  | 3 => ("ScanMill", "machine", "LScanMill$Machine;", true)
  | 4 => ("ScanMill", "registersWanted", "I", false)
  | 5 => ("ScanMill", "scanned", "Z", false)
  | _ => ("ScanMill", "running", "Z", false)
def t_Mill : Nat → FieldType := fun k => match k with
  | 0 => .object "ScanMill$Row"
  | 1 => .object "ScanMill$Liveness"
  | 2 => .object "ScanMill$Places"
  | 3 => .object "ScanMill$Machine"
  | 4 => .int
  | 5 => .boolean
  | _ => .boolean
theorem n_Mill : ∀ a, a < 7 → ∀ b, b < 7 → a ≠ b → (T_Mill a).2.1 ≠ (T_Mill b).2.1 := by decide +kernel
theorem t_Mill_ok : ∀ k, k < 7 → parseFieldDescriptor (T_Mill k).2.2.1 = some (t_Mill k) := by decide +kernel
theorem i_Mill : ∀ w ∈ u_ws R_Mill T_Mill 7, w ∈ wG := by decide +kernel
def R_Mod : String := "ScanMillModel"
def T_Mod : u_T := fun k => match k with
  | 0 => ("ScanMillModel", "thrown", "I", false)
  | 1 => ("ScanMillModel", "ops", "I", false)
  | 2 => ("ScanMillModel", "kind", "[I", true)
  | 3 => ("ScanMillModel", "a", "[I", true)
  | 4 => ("ScanMillModel", "b", "[I", true)
  | 5 => ("ScanMillModel", "c", "[I", true)
  | 6 => ("ScanMillModel", "wanted", "I", false)
  | 7 => ("ScanMillModel", "isScanned", "Z", false)
  | 8 => ("ScanMillModel", "registers", "I", false)
  | 9 => ("ScanMillModel", "slots", "I", false)
  | 10 => ("ScanMillModel", "first", "[I", true)
  | 11 => ("ScanMillModel", "last", "[I", true)
  | 12 => ("ScanMillModel", "is", "[Z", true)
  | 13 => ("ScanMillModel", "over", "[Z", true)
  | 14 => ("ScanMillModel", "register", "[I", true)
  | 15 => ("ScanMillModel", "slot", "[I", true)
  | 16 => ("ScanMillModel", "holder", "[I", true)
  | 17 => ("ScanMillModel", "state", "I", false)
  | 18 => ("ScanMillModel", "next", "I", false)
  | 19 => ("ScanMillModel", "steps", "I", false)
  | 20 => ("ScanMillModel", "calls", "I", false)
  | 21 => ("ScanMillModel", "outs", "I", false)
  | 22 => ("ScanMillModel", "output", "[I", true)
  | 23 => ("ScanMillModel", "inRegister", "[I", true)
  | 24 => ("ScanMillModel", "inSlot", "[I", true)
  | 25 => ("ScanMillModel", "ways", "I", false)
  | 26 => ("ScanMillModel", "way", "[I", true)
  | 27 => ("ScanMillModel", "seen", "[Z", true)
  | _ => ("ScanMillModel", "gone", "[Z", true)
def t_Mod : Nat → FieldType := fun k => match k with
  | 0 => .int
  | 1 => .int
  | 2 => .array .int
  | 3 => .array .int
  | 4 => .array .int
  | 5 => .array .int
  | 6 => .int
  | 7 => .boolean
  | 8 => .int
  | 9 => .int
  | 10 => .array .int
  | 11 => .array .int
  | 12 => .array .boolean
  | 13 => .array .boolean
  | 14 => .array .int
  | 15 => .array .int
  | 16 => .array .int
  | 17 => .int
  | 18 => .int
  | 19 => .int
  | 20 => .int
  | 21 => .int
  | 22 => .array .int
  | 23 => .array .int
  | 24 => .array .int
  | 25 => .int
  | 26 => .array .int
  | 27 => .array .boolean
  | _ => .array .boolean
theorem n_Mod : ∀ a, a < 29 → ∀ b, b < 29 → a ≠ b → (T_Mod a).2.1 ≠ (T_Mod b).2.1 := by decide +kernel
theorem t_Mod_ok : ∀ k, k < 29 → parseFieldDescriptor (T_Mod k).2.2.1 = some (t_Mod k) := by decide +kernel
theorem i_Mod : ∀ w ∈ u_ws R_Mod T_Mod 29, w ∈ wG := by decide +kernel
abbrev smC : List vw_C := [(R_Row, T_Row, 5), (R_Liv, T_Liv, 2), (R_Plc, T_Plc, 11), (R_Mac, T_Mac, 7), (R_Mill, T_Mill, 7), (R_Mod, T_Mod, 29)]
abbrev y_Mill_isValue : MethodName := ⟨"ScanMill", "isValue", "(I)Z"⟩
theorem d_Mill_isValue_0 : decode prog_1_method_18_code 0 = .ok (.iload_n 0, 1) := by decide +kernel
theorem d_Mill_isValue_1 : decode prog_1_method_18_code 1 = .ok (.ifCond .lt 13, 3) := by decide +kernel
theorem d_Mill_isValue_14 : decode prog_1_method_18_code 14 = .ok (.iconst 0, 1) := by decide +kernel
theorem d_Mill_isValue_15 : decode prog_1_method_18_code 15 = .ok (.ireturn, 1) := by decide +kernel
theorem d_Mill_isValue_4 : decode prog_1_method_18_code 4 = .ok (.iload_n 0, 1) := by decide +kernel
theorem d_Mill_isValue_5 : decode prog_1_method_18_code 5 = .ok (.bipush 24, 2) := by decide +kernel
theorem d_Mill_isValue_7 : decode prog_1_method_18_code 7 = .ok (.if_icmp .ge 7, 3) := by decide +kernel
theorem d_Mill_isValue_10 : decode prog_1_method_18_code 10 = .ok (.iconst 1, 1) := by decide +kernel
theorem d_Mill_isValue_11 : decode prog_1_method_18_code 11 = .ok (.goto 4, 3) := by decide +kernel
set_option maxRecDepth 100000 in
set_option maxHeartbeats 4000000 in
theorem c_Mill_isValue {l : Launch} {dC : Nat → ClassId} {dI : Nat → Nat → Nat} {cI cZ : ClassId} {v : Int32}  : sm_I l y_Mill_isValue prog_1_method_18_code 1 (some .boolean) (rmF 0 0) (dC, dI) smC [(cI, .int), (cZ, .boolean)] [.int v] [] (fun q w2 => q = (b2i (inB v 24)) ∧ w2 = []) := by
  refine sm_I.mk (by decide) (Nat.le_of_ble_eq_true rfl) ?_
  intro p e s m below meth c A H locs ls hx hb hr ht hown hlocks hml hnm hP hK hD hA hS hN hl
  have hl : lv_has ls 1 [(0, .int v)] := hl
  refine lv_iload_n hx hb d_Mill_isValue_0 rfl (lv_at hl 0 rfl) ?_
  refine lv_if_lt (tgt := 14) hx hb d_Mill_isValue_1 (by decide) (fun c_1 => ?_) (fun c_1 => ?_)
  · skip
    refine lv_iconst (v := 0) hx hb d_Mill_isValue_14 (by decide) ?_
    refine sm_rz (v := (0 : Int32)) (ws := []) hx hb hr hlocks hK (hP.sub [] rfl) (hD.sub [] (by decide) rfl) hS (by decide) ?_ d_Mill_isValue_15
    exact ⟨by rw [in_lo c_1]; rfl, rfl⟩
  · skip
    refine lv_iload_n hx hb d_Mill_isValue_4 rfl (lv_at hl 0 rfl) ?_
    refine lv_bipush (v := 24) hx hb d_Mill_isValue_5 (by decide) ?_
    refine lv_icmp_ge (tgt := 14) hx hb d_Mill_isValue_7 (by decide) (fun c_7 => ?_) (fun c_7 => ?_)
    · skip
      refine lv_iconst (v := 0) hx hb d_Mill_isValue_14 (by decide) ?_
      refine sm_rz (v := (0 : Int32)) (ws := []) hx hb hr hlocks hK (hP.sub [] rfl) (hD.sub [] (by decide) rfl) hS (by decide) ?_ d_Mill_isValue_15
      exact ⟨by rw [in_hi (M := 24) (by decide) c_7]; rfl, rfl⟩
    · skip
      refine lv_iconst (v := 1) hx hb d_Mill_isValue_10 (by decide) ?_
      refine lv_goto (tgt := 15) hx hb d_Mill_isValue_11 (by decide) ?_
      refine sm_rz (v := (1 : Int32)) (ws := []) hx hb hr hlocks hK (hP.sub [] rfl) (hD.sub [] (by decide) rfl) hS (by decide) ?_ d_Mill_isValue_15
      exact ⟨by rw [in_ge (M := 24) (by decide) c_1 c_7]; rfl, rfl⟩
abbrev y_Mill_isTarget : MethodName := ⟨"ScanMill", "isTarget", "(I)Z"⟩
theorem d_Mill_isTarget_0 : decode prog_1_method_19_code 0 = .ok (.iload_n 0, 1) := by decide +kernel
theorem d_Mill_isTarget_1 : decode prog_1_method_19_code 1 = .ok (.ifCond .lt 13, 3) := by decide +kernel
theorem d_Mill_isTarget_14 : decode prog_1_method_19_code 14 = .ok (.iconst 0, 1) := by decide +kernel
theorem d_Mill_isTarget_15 : decode prog_1_method_19_code 15 = .ok (.ireturn, 1) := by decide +kernel
theorem d_Mill_isTarget_4 : decode prog_1_method_19_code 4 = .ok (.iload_n 0, 1) := by decide +kernel
theorem d_Mill_isTarget_5 : decode prog_1_method_19_code 5 = .ok (.bipush 60, 2) := by decide +kernel
theorem d_Mill_isTarget_7 : decode prog_1_method_19_code 7 = .ok (.if_icmp .gt 7, 3) := by decide +kernel
theorem d_Mill_isTarget_10 : decode prog_1_method_19_code 10 = .ok (.iconst 1, 1) := by decide +kernel
theorem d_Mill_isTarget_11 : decode prog_1_method_19_code 11 = .ok (.goto 4, 3) := by decide +kernel
set_option maxRecDepth 100000 in
set_option maxHeartbeats 4000000 in
theorem c_Mill_isTarget {l : Launch} {dC : Nat → ClassId} {dI : Nat → Nat → Nat} {cI cZ : ClassId} {v : Int32}  : sm_I l y_Mill_isTarget prog_1_method_19_code 1 (some .boolean) (rmF 0 0) (dC, dI) smC [(cI, .int), (cZ, .boolean)] [.int v] [] (fun q w2 => q = (b2i (inB v 61)) ∧ w2 = []) := by
  refine sm_I.mk (by decide) (Nat.le_of_ble_eq_true rfl) ?_
  intro p e s m below meth c A H locs ls hx hb hr ht hown hlocks hml hnm hP hK hD hA hS hN hl
  have hl : lv_has ls 1 [(0, .int v)] := hl
  refine lv_iload_n hx hb d_Mill_isTarget_0 rfl (lv_at hl 0 rfl) ?_
  refine lv_if_lt (tgt := 14) hx hb d_Mill_isTarget_1 (by decide) (fun c_1 => ?_) (fun c_1 => ?_)
  · skip
    refine lv_iconst (v := 0) hx hb d_Mill_isTarget_14 (by decide) ?_
    refine sm_rz (v := (0 : Int32)) (ws := []) hx hb hr hlocks hK (hP.sub [] rfl) (hD.sub [] (by decide) rfl) hS (by decide) ?_ d_Mill_isTarget_15
    exact ⟨by rw [in_lo c_1]; rfl, rfl⟩
  · skip
    refine lv_iload_n hx hb d_Mill_isTarget_4 rfl (lv_at hl 0 rfl) ?_
    refine lv_bipush (v := 60) hx hb d_Mill_isTarget_5 (by decide) ?_
    refine lv_icmp_gt (tgt := 14) hx hb d_Mill_isTarget_7 (by decide) (fun c_7 => ?_) (fun c_7 => ?_)
    · skip
      refine lv_iconst (v := 0) hx hb d_Mill_isTarget_14 (by decide) ?_
      refine sm_rz (v := (0 : Int32)) (ws := []) hx hb hr hlocks hK (hP.sub [] rfl) (hD.sub [] (by decide) rfl) hS (by decide) ?_ d_Mill_isTarget_15
      exact ⟨by rw [in_hg (M := 60) (by decide) c_7]; rfl, rfl⟩
    · skip
      refine lv_iconst (v := 1) hx hb d_Mill_isTarget_10 (by decide) ?_
      refine lv_goto (tgt := 15) hx hb d_Mill_isTarget_11 (by decide) ?_
      refine sm_rz (v := (1 : Int32)) (ws := []) hx hb hr hlocks hK (hP.sub [] rfl) (hD.sub [] (by decide) rfl) hS (by decide) ?_ d_Mill_isTarget_15
      exact ⟨by rw [in_gt (M := 60) (by decide) c_1 c_7]; rfl, rfl⟩
abbrev y_Mill_placeOrNoAnswer : MethodName := ⟨"ScanMill", "placeOrNoAnswer", "(I)I"⟩
theorem d_Mill_placeOrNoAnswer_0 : decode prog_1_method_17_code 0 = .ok (.iload_n 0, 1) := by decide +kernel
theorem d_Mill_placeOrNoAnswer_1 : decode prog_1_method_17_code 1 = .ok (.iconst (-1), 1) := by decide +kernel
theorem d_Mill_placeOrNoAnswer_2 : decode prog_1_method_17_code 2 = .ok (.if_icmp .ne 8, 3) := by decide +kernel
theorem d_Mill_placeOrNoAnswer_10 : decode prog_1_method_17_code 10 = .ok (.iload_n 0, 1) := by decide +kernel
theorem d_Mill_placeOrNoAnswer_11 : decode prog_1_method_17_code 11 = .ok (.ireturn, 1) := by decide +kernel
theorem d_Mill_placeOrNoAnswer_5 : decode prog_1_method_17_code 5 = .ok (.bipush (-9), 2) := by decide +kernel
theorem d_Mill_placeOrNoAnswer_7 : decode prog_1_method_17_code 7 = .ok (.goto 4, 3) := by decide +kernel
set_option maxRecDepth 100000 in
set_option maxHeartbeats 4000000 in
theorem c_Mill_placeOrNoAnswer {l : Launch} {dC : Nat → ClassId} {dI : Nat → Nat → Nat} {cI cZ : ClassId} {v : Int32}  : sm_I l y_Mill_placeOrNoAnswer prog_1_method_17_code 1 (some .int) (rmF 0 0) (dC, dI) smC [(cI, .int), (cZ, .boolean)] [.int v] [] (fun q w2 => q = (if v = -1 then -9 else v) ∧ w2 = []) := by
  refine sm_I.mk (by decide) (Nat.le_of_ble_eq_true rfl) ?_
  intro p e s m below meth c A H locs ls hx hb hr ht hown hlocks hml hnm hP hK hD hA hS hN hl
  have hl : lv_has ls 1 [(0, .int v)] := hl
  refine lv_iload_n hx hb d_Mill_placeOrNoAnswer_0 rfl (lv_at hl 0 rfl) ?_
  refine lv_iconst (v := -1) hx hb d_Mill_placeOrNoAnswer_1 (by decide) ?_
  refine lv_icmp_ne (tgt := 10) hx hb d_Mill_placeOrNoAnswer_2 (by decide) (fun c_2 => ?_) (fun c_2 => ?_)
  · skip
    refine lv_iload_n hx hb d_Mill_placeOrNoAnswer_10 rfl (lv_at hl 0 rfl) ?_
    refine sm_ri (v := v) (ws := []) hx hb hr hlocks hK (hP.sub [] rfl) (hD.sub [] (by decide) rfl) hS ?_ d_Mill_placeOrNoAnswer_11
    exact ⟨by simp [c_2], rfl⟩
  · skip
    refine lv_bipush (v := -9) hx hb d_Mill_placeOrNoAnswer_5 (by decide) ?_
    refine lv_goto (tgt := 11) hx hb d_Mill_placeOrNoAnswer_7 (by decide) ?_
    refine sm_ri (v := (-9 : Int32)) (ws := []) hx hb hr hlocks hK (hP.sub [] rfl) (hD.sub [] (by decide) rfl) hS ?_ d_Mill_placeOrNoAnswer_11
    exact ⟨by simp [c_2], rfl⟩
abbrev y_Row_size : MethodName := ⟨"ScanMill$Row", "size", "()I"⟩
theorem d_Row_size_0 : decode prog_5_method_2_code 0 = .ok (.aload_n 0, 1) := by decide +kernel
theorem d_Row_size_1 : decode prog_5_method_2_code 1 = .ok (.getfield 24, 3) := by decide +kernel
theorem mw_33 : Cond.fieldLink "ScanMill$Row" 24 "ScanMill$Row" "count" "I" ∈ wG := wG_t 33 (by decide +kernel) (by decide +kernel)
theorem d_Row_size_4 : decode prog_5_method_2_code 4 = .ok (.ireturn, 1) := by decide +kernel
set_option maxRecDepth 100000 in
set_option maxHeartbeats 4000000 in
theorem c_Row_size {l : Launch} {dC : Nat → ClassId} {dI : Nat → Nat → Nat} {cI cZ : ClassId} {r rk ra rb rc n : Nat} {fk fa fb fc : Nat → Int32}  : sm_I l y_Row_size prog_5_method_2_code 1 (some .int) (rmF 0 0) (dC, dI) smC [(cI, .int), (cZ, .boolean)] [.ref r] [(r, .inr (0, [.ref rk, .ref ra, .ref rb, .ref rc, .int (nI n)])), (rk, .inl (cI, 60, .inl fk)), (ra, .inl (cI, 60, .inl fa)), (rb, .inl (cI, 60, .inl fb)), (rc, .inl (cI, 60, .inl fc))] (fun q w2 => q = (nI n) ∧ w2 = [(r, .inr (0, [.ref rk, .ref ra, .ref rb, .ref rc, .int (nI n)])), (rk, .inl (cI, 60, .inl fk)), (ra, .inl (cI, 60, .inl fa)), (rb, .inl (cI, 60, .inl fb)), (rc, .inl (cI, 60, .inl fc))]) := by
  refine sm_I.mk (by decide) (Nat.le_of_ble_eq_true rfl) ?_
  intro p e s m below meth c A H locs ls hx hb hr ht hown hlocks hml hnm hP hK hD hA hS hN hl
  have hl : lv_has ls 1 [(0, .ref r)] := hl
  refine lv_aload_n hx hb d_Row_size_0 rfl (lv_at hl 0 rfl) ?_
  refine va_get (D := (dC, dI)) (ci := 0) (v := .int (nI n)) (C := R_Row) (T := T_Row) (N := 5) hx hb ht i_Row hown hK hP 0 rfl rfl 4 (by decide) (ht _ mw_33) (fun _ h9 => h9) rfl d_Row_size_1 ?_
  refine sm_ri (v := nI n) (ws := [(r, .inr (0, [.ref rk, .ref ra, .ref rb, .ref rc, .int (nI n)])), (rk, .inl (cI, 60, .inl fk)), (ra, .inl (cI, 60, .inl fa)), (rb, .inl (cI, 60, .inl fb)), (rc, .inl (cI, 60, .inl fc))]) hx hb hr hlocks hK (hP.sub [0, 1, 2, 3, 4] rfl) (hD.sub [0, 1, 2, 3, 4] (by decide) rfl) hS ?_ d_Row_size_4
  exact ⟨rfl, rfl⟩
abbrev y_Row_empty : MethodName := ⟨"ScanMill$Row", "empty", "()V"⟩
theorem d_Row_empty_0 : decode prog_5_method_3_code 0 = .ok (.aload_n 0, 1) := by decide +kernel
theorem d_Row_empty_1 : decode prog_5_method_3_code 1 = .ok (.iconst 0, 1) := by decide +kernel
theorem d_Row_empty_2 : decode prog_5_method_3_code 2 = .ok (.putfield 24, 3) := by decide +kernel
theorem d_Row_empty_5 : decode prog_5_method_3_code 5 = .ok (.return_, 1) := by decide +kernel
set_option maxRecDepth 100000 in
set_option maxHeartbeats 4000000 in
theorem c_Row_empty {l : Launch} {dC : Nat → ClassId} {dI : Nat → Nat → Nat} {cI cZ : ClassId} {r rk ra rb rc n : Nat} {fk fa fb fc : Nat → Int32}  : sm_V l y_Row_empty prog_5_method_3_code 1 none (rmF 0 0) (dC, dI) smC [(cI, .int), (cZ, .boolean)] [.ref r] [(r, .inr (0, [.ref rk, .ref ra, .ref rb, .ref rc, .int (nI n)])), (rk, .inl (cI, 60, .inl fk)), (ra, .inl (cI, 60, .inl fa)), (rb, .inl (cI, 60, .inl fb)), (rc, .inl (cI, 60, .inl fc))] (fun w2 => w2 = [(r, .inr (0, [.ref rk, .ref ra, .ref rb, .ref rc, .int ((0 : Int32))])), (rk, .inl (cI, 60, .inl fk)), (ra, .inl (cI, 60, .inl fa)), (rb, .inl (cI, 60, .inl fb)), (rc, .inl (cI, 60, .inl fc))]) := by
  refine sm_V.mk (by decide) (Nat.le_of_ble_eq_true rfl) ?_
  intro p e s m below meth c A H locs ls hx hb hr ht hown hlocks hml hnm hP hK hD hA hS hN hl
  have hl : lv_has ls 1 [(0, .ref r)] := hl
  refine lv_aload_n hx hb d_Row_empty_0 rfl (lv_at hl 0 rfl) ?_
  refine lv_iconst (v := 0) hx hb d_Row_empty_1 (by decide) ?_
  refine va_put (D := (dC, dI)) (ci := 0) (v := .int ((0 : Int32))) (ty := .int) (C := R_Row) (T := T_Row) (N := 5) hx hb ht i_Row t_Row t_Row_ok n_Row hown hK hP hD hS 0 rfl rfl 4 (by decide) (ht _ mw_33) (fun _ h9 => h9) rfl (by decide +kernel) rfl rfl (Nat.le_of_ble_eq_true rfl) d_Row_empty_2 (fun H locs hP hD hS => ?_)
  have hP : va_P (dC, dI) smC [(r, .inr (0, [.ref rk, .ref ra, .ref rb, .ref rc, .int ((0 : Int32))])), (rk, .inl (cI, 60, .inl fk)), (ra, .inl (cI, 60, .inl fa)), (rb, .inl (cI, 60, .inl fb)), (rc, .inl (cI, 60, .inl fc))] H := hP
  have hD : va_D A [(r, .inr (0, [.ref rk, .ref ra, .ref rb, .ref rc, .int ((0 : Int32))])), (rk, .inl (cI, 60, .inl fk)), (ra, .inl (cI, 60, .inl fa)), (rb, .inl (cI, 60, .inl fb)), (rc, .inl (cI, 60, .inl fc))] := hD
  refine sm_rv (ws := [(r, .inr (0, [.ref rk, .ref ra, .ref rb, .ref rc, .int ((0 : Int32))])), (rk, .inl (cI, 60, .inl fk)), (ra, .inl (cI, 60, .inl fa)), (rb, .inl (cI, 60, .inl fb)), (rc, .inl (cI, 60, .inl fc))]) hx hb hr hlocks hK (hP.sub [0, 1, 2, 3, 4] rfl) (hD.sub [0, 1, 2, 3, 4] (by decide) rfl) hS ?_ d_Row_empty_5
  rfl
abbrev y_Row_holds : MethodName := ⟨"ScanMill$Row", "holds", "(I)Z"⟩
theorem d_Row_holds_0 : decode prog_5_method_11_code 0 = .ok (.iload_n 1, 1) := by decide +kernel
theorem d_Row_holds_1 : decode prog_5_method_11_code 1 = .ok (.ifCond .lt 15, 3) := by decide +kernel
theorem d_Row_holds_16 : decode prog_5_method_11_code 16 = .ok (.iconst 0, 1) := by decide +kernel
theorem d_Row_holds_17 : decode prog_5_method_11_code 17 = .ok (.ireturn, 1) := by decide +kernel
theorem d_Row_holds_4 : decode prog_5_method_11_code 4 = .ok (.iload_n 1, 1) := by decide +kernel
theorem d_Row_holds_5 : decode prog_5_method_11_code 5 = .ok (.aload_n 0, 1) := by decide +kernel
theorem d_Row_holds_6 : decode prog_5_method_11_code 6 = .ok (.getfield 24, 3) := by decide +kernel
theorem d_Row_holds_9 : decode prog_5_method_11_code 9 = .ok (.if_icmp .ge 7, 3) := by decide +kernel
theorem d_Row_holds_12 : decode prog_5_method_11_code 12 = .ok (.iconst 1, 1) := by decide +kernel
theorem d_Row_holds_13 : decode prog_5_method_11_code 13 = .ok (.goto 4, 3) := by decide +kernel
set_option maxRecDepth 100000 in
set_option maxHeartbeats 4000000 in
theorem c_Row_holds {l : Launch} {dC : Nat → ClassId} {dI : Nat → Nat → Nat} {cI cZ : ClassId} {r rk ra rb rc n : Nat} {fk fa fb fc : Nat → Int32} {k : Int32} (hn : n ≤ 60) : sm_I l y_Row_holds prog_5_method_11_code 2 (some .boolean) (rmF 0 0) (dC, dI) smC [(cI, .int), (cZ, .boolean)] [.ref r, .int k] [(r, .inr (0, [.ref rk, .ref ra, .ref rb, .ref rc, .int (nI n)])), (rk, .inl (cI, 60, .inl fk)), (ra, .inl (cI, 60, .inl fa)), (rb, .inl (cI, 60, .inl fb)), (rc, .inl (cI, 60, .inl fc))] (fun q w2 => q = (b2i (inB k n)) ∧ w2 = [(r, .inr (0, [.ref rk, .ref ra, .ref rb, .ref rc, .int (nI n)])), (rk, .inl (cI, 60, .inl fk)), (ra, .inl (cI, 60, .inl fa)), (rb, .inl (cI, 60, .inl fb)), (rc, .inl (cI, 60, .inl fc))]) := by
  refine sm_I.mk (by decide) (Nat.le_of_ble_eq_true rfl) ?_
  intro p e s m below meth c A H locs ls hx hb hr ht hown hlocks hml hnm hP hK hD hA hS hN hl
  have hl : lv_has ls 2 [(0, .ref r), (1, .int k)] := hl
  refine lv_iload_n hx hb d_Row_holds_0 rfl (lv_at hl 1 rfl) ?_
  refine lv_if_lt (tgt := 16) hx hb d_Row_holds_1 (by decide) (fun c_1 => ?_) (fun c_1 => ?_)
  · skip
    refine lv_iconst (v := 0) hx hb d_Row_holds_16 (by decide) ?_
    refine sm_rz (v := (0 : Int32)) (ws := [(r, .inr (0, [.ref rk, .ref ra, .ref rb, .ref rc, .int (nI n)])), (rk, .inl (cI, 60, .inl fk)), (ra, .inl (cI, 60, .inl fa)), (rb, .inl (cI, 60, .inl fb)), (rc, .inl (cI, 60, .inl fc))]) hx hb hr hlocks hK (hP.sub [0, 1, 2, 3, 4] rfl) (hD.sub [0, 1, 2, 3, 4] (by decide) rfl) hS (by decide) ?_ d_Row_holds_17
    exact ⟨by rw [in_lo c_1]; rfl, rfl⟩
  · skip
    refine lv_iload_n hx hb d_Row_holds_4 rfl (lv_at hl 1 rfl) ?_
    refine lv_aload_n hx hb d_Row_holds_5 rfl (lv_at hl 0 rfl) ?_
    refine va_get (D := (dC, dI)) (ci := 0) (v := .int (nI n)) (C := R_Row) (T := T_Row) (N := 5) hx hb ht i_Row hown hK hP 0 rfl rfl 4 (by decide) (ht _ mw_33) (fun _ h9 => h9) rfl d_Row_holds_6 ?_
    refine lv_icmp_ge (tgt := 16) hx hb d_Row_holds_9 (by decide) (fun c_9 => ?_) (fun c_9 => ?_)
    · skip
      refine lv_iconst (v := 0) hx hb d_Row_holds_16 (by decide) ?_
      refine sm_rz (v := (0 : Int32)) (ws := [(r, .inr (0, [.ref rk, .ref ra, .ref rb, .ref rc, .int (nI n)])), (rk, .inl (cI, 60, .inl fk)), (ra, .inl (cI, 60, .inl fa)), (rb, .inl (cI, 60, .inl fb)), (rc, .inl (cI, 60, .inl fc))]) hx hb hr hlocks hK (hP.sub [0, 1, 2, 3, 4] rfl) (hD.sub [0, 1, 2, 3, 4] (by decide) rfl) hS (by decide) ?_ d_Row_holds_17
      exact ⟨by rw [in_hi (M := nI n) (nI_toInt (by omega)) c_9]; rfl, rfl⟩
    · skip
      refine lv_iconst (v := 1) hx hb d_Row_holds_12 (by decide) ?_
      refine lv_goto (tgt := 17) hx hb d_Row_holds_13 (by decide) ?_
      refine sm_rz (v := (1 : Int32)) (ws := [(r, .inr (0, [.ref rk, .ref ra, .ref rb, .ref rc, .int (nI n)])), (rk, .inl (cI, 60, .inl fk)), (ra, .inl (cI, 60, .inl fa)), (rb, .inl (cI, 60, .inl fb)), (rc, .inl (cI, 60, .inl fc))]) hx hb hr hlocks hK (hP.sub [0, 1, 2, 3, 4] rfl) (hD.sub [0, 1, 2, 3, 4] (by decide) rfl) hS (by decide) ?_ d_Row_holds_17
      exact ⟨by rw [in_ge (M := nI n) (nI_toInt (by omega)) c_1 c_9]; rfl, rfl⟩
abbrev y_Row_kindAt : MethodName := ⟨"ScanMill$Row", "kindAt", "(I)I"⟩
theorem d_Row_kindAt_0 : decode prog_5_method_5_code 0 = .ok (.aload_n 0, 1) := by decide +kernel
theorem d_Row_kindAt_1 : decode prog_5_method_5_code 1 = .ok (.iload_n 1, 1) := by decide +kernel
theorem d_Row_kindAt_2 : decode prog_5_method_5_code 2 = .ok (.invokevirtual 32, 3) := by decide +kernel
theorem mw_221 : Cond.code ⟨"ScanMill$Row", "holds", "(I)Z"⟩ prog_5_method_11_code 2 (Option.some FieldType.boolean) ∈ wG := wG_t 221 (by decide +kernel) (by decide +kernel)
theorem mw_2 : Cond.initialized "ScanMill$Row" ∈ wG := wG_t 2 (by decide +kernel) (by decide +kernel)
theorem mw_218 : Cond.methodLink "ScanMill$Row" 32 ⟨"ScanMill$Row", "holds", "(I)Z"⟩ ∈ wG := wG_t 218 (by decide +kernel) (by decide +kernel)
theorem mw_220 : Cond.instanceMethod ⟨"ScanMill$Row", "holds", "(I)Z"⟩ ∈ wG := wG_t 220 (by decide +kernel) (by decide +kernel)
theorem mp_2 : Cond.selects "ScanMill$Row" ⟨"ScanMill$Row", "holds", "(I)Z"⟩ ⟨"ScanMill$Row", "holds", "(I)Z"⟩ ∈ wG := wG_p 2 (by decide +kernel) (by decide +kernel)
theorem d_Row_kindAt_5 : decode prog_5_method_5_code 5 = .ok (.ifCond .eq 12, 3) := by decide +kernel
theorem d_Row_kindAt_17 : decode prog_5_method_5_code 17 = .ok (.bipush 11, 2) := by decide +kernel
theorem d_Row_kindAt_19 : decode prog_5_method_5_code 19 = .ok (.ireturn, 1) := by decide +kernel
theorem d_Row_kindAt_8 : decode prog_5_method_5_code 8 = .ok (.aload_n 0, 1) := by decide +kernel
theorem d_Row_kindAt_9 : decode prog_5_method_5_code 9 = .ok (.getfield 9, 3) := by decide +kernel
theorem mw_29 : Cond.fieldLink "ScanMill$Row" 9 "ScanMill$Row" "kinds" "[I" ∈ wG := wG_t 29 (by decide +kernel) (by decide +kernel)
theorem d_Row_kindAt_12 : decode prog_5_method_5_code 12 = .ok (.iload_n 1, 1) := by decide +kernel
theorem d_Row_kindAt_13 : decode prog_5_method_5_code 13 = .ok (.iaload, 1) := by decide +kernel
theorem d_Row_kindAt_14 : decode prog_5_method_5_code 14 = .ok (.goto 5, 3) := by decide +kernel
set_option maxRecDepth 100000 in
set_option maxHeartbeats 4000000 in
theorem c_Row_kindAt {l : Launch} {dC : Nat → ClassId} {dI : Nat → Nat → Nat} {cI cZ : ClassId} {r rk ra rb rc n : Nat} {fk fa fb fc : Nat → Int32} {k : Int32} (hn : n ≤ 60) : sm_I l y_Row_kindAt prog_5_method_5_code 2 (some .int) (rmF 1 21) (dC, dI) smC [(cI, .int), (cZ, .boolean)] [.ref r, .int k] [(r, .inr (0, [.ref rk, .ref ra, .ref rb, .ref rc, .int (nI n)])), (rk, .inl (cI, 60, .inl fk)), (ra, .inl (cI, 60, .inl fa)), (rb, .inl (cI, 60, .inl fb)), (rc, .inl (cI, 60, .inl fc))] (fun q w2 => q = (kA n fk k) ∧ w2 = [(r, .inr (0, [.ref rk, .ref ra, .ref rb, .ref rc, .int (nI n)])), (rk, .inl (cI, 60, .inl fk)), (ra, .inl (cI, 60, .inl fa)), (rb, .inl (cI, 60, .inl fb)), (rc, .inl (cI, 60, .inl fc))]) := by
  refine sm_I.mk (by decide) (Nat.le_of_ble_eq_true rfl) ?_
  intro p e s m below meth c A H locs ls hx hb hr ht hown hlocks hml hnm hP hK hD hA hS hN hl
  have hl : lv_has ls 2 [(0, .ref r), (1, .int k)] := hl
  refine lv_aload_n hx hb d_Row_kindAt_0 rfl (lv_at hl 0 rfl) ?_
  refine lv_iload_n hx hb d_Row_kindAt_1 rfl (lv_at hl 1 rfl) ?_
  refine sm_goi (wc := [(r, .inr (0, [.ref rk, .ref ra, .ref rb, .ref rc, .int (nI n)])), (rk, .inl (cI, 60, .inl fk)), (ra, .inl (cI, 60, .inl fa)), (rb, .inl (cI, 60, .inl fb)), (rc, .inl (cI, 60, .inl fc))]) (wr := []) (va_runV (As := [.int k]) (rest := []) ⟨hx, hb, hml, hown, ht⟩ ((c_Row_holds (l := l) (dC := dC) (dI := dI) (cI := cI) (cZ := cZ) (r := r) (rk := rk) (ra := ra) (rb := rb) (rc := rc) (n := n) (fk := fk) (fa := fa) (fb := fb) (fc := fc) (k := k) (by first | assumption | omega)).at H.size) (sm_cV 1 ht mw_221 mw_2 mw_218 mw_220 mp_2 rfl rfl (by decide +kernel) ⟨Nat.le_of_ble_eq_true rfl, Nat.le_of_ble_eq_true rfl⟩) (sm_preV (ci := 0) hN hK hP hD [0, 1, 2, 3, 4] rfl rfl (by decide) 0 rfl rfl) rfl rfl hl.1 rfl (lv_room (Nat.le_of_ble_eq_true rfl)) d_Row_kindAt_2 ⟨Nat.zero_le _, Nat.zero_le _⟩) hP hD hS hA [0, 1, 2, 3, 4] [] rfl rfl (by decide) (by decide) (fun r_2 w_2 H locs q_2 hP hD hS => ?_)
  obtain ⟨rfl, rfl⟩ := q_2
  have hP : va_P (dC, dI) smC [(r, .inr (0, [.ref rk, .ref ra, .ref rb, .ref rc, .int (nI n)])), (rk, .inl (cI, 60, .inl fk)), (ra, .inl (cI, 60, .inl fa)), (rb, .inl (cI, 60, .inl fb)), (rc, .inl (cI, 60, .inl fc))] H := hP
  have hD : va_D A [(r, .inr (0, [.ref rk, .ref ra, .ref rb, .ref rc, .int (nI n)])), (rk, .inl (cI, 60, .inl fk)), (ra, .inl (cI, 60, .inl fa)), (rb, .inl (cI, 60, .inl fb)), (rc, .inl (cI, 60, .inl fc))] := hD
  refine lv_if_eq (tgt := 17) hx hb d_Row_kindAt_5 (by decide) (fun c_5 => ?_) (fun c_5 => ?_)
  · skip
    have e_5 : (inB k n) = false := b2i_eq0 c_5
    refine lv_bipush (v := 11) hx hb d_Row_kindAt_17 (by decide) ?_
    refine sm_ri (v := (11 : Int32)) (ws := [(r, .inr (0, [.ref rk, .ref ra, .ref rb, .ref rc, .int (nI n)])), (rk, .inl (cI, 60, .inl fk)), (ra, .inl (cI, 60, .inl fa)), (rb, .inl (cI, 60, .inl fb)), (rc, .inl (cI, 60, .inl fc))]) hx hb hr hlocks hK (hP.sub [0, 1, 2, 3, 4] rfl) (hD.sub [0, 1, 2, 3, 4] (by decide) rfl) hS ?_ d_Row_kindAt_19
    exact ⟨by simp [kA, e_5], rfl⟩
  · skip
    have e_5 : (inB k n) = true := b2i_ne0 c_5
    refine lv_aload_n hx hb d_Row_kindAt_8 rfl (lv_at hl 0 rfl) ?_
    refine va_get (D := (dC, dI)) (ci := 0) (v := .ref rk) (C := R_Row) (T := T_Row) (N := 5) hx hb ht i_Row hown hK hP 0 rfl rfl 0 (by decide) (ht _ mw_29) (fun _ h9 => h9) rfl d_Row_kindAt_9 ?_
    refine lv_iload_n hx hb d_Row_kindAt_12 rfl (lv_at hl 1 rfl) ?_
    refine sm_iald (j := k.toNatClampNeg) hx hb hK hP 1 0 rfl rfl (sm_inB (inB_mono e_5 hn)) rfl d_Row_kindAt_13 ?_
    refine lv_goto (tgt := 19) hx hb d_Row_kindAt_14 (by decide) ?_
    refine sm_ri (v := fk k.toNatClampNeg) (ws := [(r, .inr (0, [.ref rk, .ref ra, .ref rb, .ref rc, .int (nI n)])), (rk, .inl (cI, 60, .inl fk)), (ra, .inl (cI, 60, .inl fa)), (rb, .inl (cI, 60, .inl fb)), (rc, .inl (cI, 60, .inl fc))]) hx hb hr hlocks hK (hP.sub [0, 1, 2, 3, 4] rfl) (hD.sub [0, 1, 2, 3, 4] (by decide) rfl) hS ?_ d_Row_kindAt_19
    exact ⟨by simp [kA, e_5], rfl⟩
abbrev y_Row_numberAt : MethodName := ⟨"ScanMill$Row", "numberAt", "(I)I"⟩
theorem d_Row_numberAt_0 : decode prog_5_method_6_code 0 = .ok (.aload_n 0, 1) := by decide +kernel
theorem d_Row_numberAt_1 : decode prog_5_method_6_code 1 = .ok (.iload_n 1, 1) := by decide +kernel
theorem d_Row_numberAt_2 : decode prog_5_method_6_code 2 = .ok (.invokevirtual 32, 3) := by decide +kernel
theorem d_Row_numberAt_5 : decode prog_5_method_6_code 5 = .ok (.ifCond .eq 12, 3) := by decide +kernel
theorem d_Row_numberAt_17 : decode prog_5_method_6_code 17 = .ok (.iconst 0, 1) := by decide +kernel
theorem d_Row_numberAt_18 : decode prog_5_method_6_code 18 = .ok (.ireturn, 1) := by decide +kernel
theorem d_Row_numberAt_8 : decode prog_5_method_6_code 8 = .ok (.aload_n 0, 1) := by decide +kernel
theorem d_Row_numberAt_9 : decode prog_5_method_6_code 9 = .ok (.getfield 18, 3) := by decide +kernel
theorem mw_31 : Cond.fieldLink "ScanMill$Row" 18 "ScanMill$Row" "bs" "[I" ∈ wG := wG_t 31 (by decide +kernel) (by decide +kernel)
theorem d_Row_numberAt_12 : decode prog_5_method_6_code 12 = .ok (.iload_n 1, 1) := by decide +kernel
theorem d_Row_numberAt_13 : decode prog_5_method_6_code 13 = .ok (.iaload, 1) := by decide +kernel
theorem d_Row_numberAt_14 : decode prog_5_method_6_code 14 = .ok (.goto 4, 3) := by decide +kernel
set_option maxRecDepth 100000 in
set_option maxHeartbeats 4000000 in
theorem c_Row_numberAt {l : Launch} {dC : Nat → ClassId} {dI : Nat → Nat → Nat} {cI cZ : ClassId} {r rk ra rb rc n : Nat} {fk fa fb fc : Nat → Int32} {k : Int32} (hn : n ≤ 60) : sm_I l y_Row_numberAt prog_5_method_6_code 2 (some .int) (rmF 1 21) (dC, dI) smC [(cI, .int), (cZ, .boolean)] [.ref r, .int k] [(r, .inr (0, [.ref rk, .ref ra, .ref rb, .ref rc, .int (nI n)])), (rk, .inl (cI, 60, .inl fk)), (ra, .inl (cI, 60, .inl fa)), (rb, .inl (cI, 60, .inl fb)), (rc, .inl (cI, 60, .inl fc))] (fun q w2 => q = (nA n fb k) ∧ w2 = [(r, .inr (0, [.ref rk, .ref ra, .ref rb, .ref rc, .int (nI n)])), (rk, .inl (cI, 60, .inl fk)), (ra, .inl (cI, 60, .inl fa)), (rb, .inl (cI, 60, .inl fb)), (rc, .inl (cI, 60, .inl fc))]) := by
  refine sm_I.mk (by decide) (Nat.le_of_ble_eq_true rfl) ?_
  intro p e s m below meth c A H locs ls hx hb hr ht hown hlocks hml hnm hP hK hD hA hS hN hl
  have hl : lv_has ls 2 [(0, .ref r), (1, .int k)] := hl
  refine lv_aload_n hx hb d_Row_numberAt_0 rfl (lv_at hl 0 rfl) ?_
  refine lv_iload_n hx hb d_Row_numberAt_1 rfl (lv_at hl 1 rfl) ?_
  refine sm_goi (wc := [(r, .inr (0, [.ref rk, .ref ra, .ref rb, .ref rc, .int (nI n)])), (rk, .inl (cI, 60, .inl fk)), (ra, .inl (cI, 60, .inl fa)), (rb, .inl (cI, 60, .inl fb)), (rc, .inl (cI, 60, .inl fc))]) (wr := []) (va_runV (As := [.int k]) (rest := []) ⟨hx, hb, hml, hown, ht⟩ ((c_Row_holds (l := l) (dC := dC) (dI := dI) (cI := cI) (cZ := cZ) (r := r) (rk := rk) (ra := ra) (rb := rb) (rc := rc) (n := n) (fk := fk) (fa := fa) (fb := fb) (fc := fc) (k := k) (by first | assumption | omega)).at H.size) (sm_cV 1 ht mw_221 mw_2 mw_218 mw_220 mp_2 rfl rfl (by decide +kernel) ⟨Nat.le_of_ble_eq_true rfl, Nat.le_of_ble_eq_true rfl⟩) (sm_preV (ci := 0) hN hK hP hD [0, 1, 2, 3, 4] rfl rfl (by decide) 0 rfl rfl) rfl rfl hl.1 rfl (lv_room (Nat.le_of_ble_eq_true rfl)) d_Row_numberAt_2 ⟨Nat.zero_le _, Nat.zero_le _⟩) hP hD hS hA [0, 1, 2, 3, 4] [] rfl rfl (by decide) (by decide) (fun r_2 w_2 H locs q_2 hP hD hS => ?_)
  obtain ⟨rfl, rfl⟩ := q_2
  have hP : va_P (dC, dI) smC [(r, .inr (0, [.ref rk, .ref ra, .ref rb, .ref rc, .int (nI n)])), (rk, .inl (cI, 60, .inl fk)), (ra, .inl (cI, 60, .inl fa)), (rb, .inl (cI, 60, .inl fb)), (rc, .inl (cI, 60, .inl fc))] H := hP
  have hD : va_D A [(r, .inr (0, [.ref rk, .ref ra, .ref rb, .ref rc, .int (nI n)])), (rk, .inl (cI, 60, .inl fk)), (ra, .inl (cI, 60, .inl fa)), (rb, .inl (cI, 60, .inl fb)), (rc, .inl (cI, 60, .inl fc))] := hD
  refine lv_if_eq (tgt := 17) hx hb d_Row_numberAt_5 (by decide) (fun c_5 => ?_) (fun c_5 => ?_)
  · skip
    have e_5 : (inB k n) = false := b2i_eq0 c_5
    refine lv_iconst (v := 0) hx hb d_Row_numberAt_17 (by decide) ?_
    refine sm_ri (v := (0 : Int32)) (ws := [(r, .inr (0, [.ref rk, .ref ra, .ref rb, .ref rc, .int (nI n)])), (rk, .inl (cI, 60, .inl fk)), (ra, .inl (cI, 60, .inl fa)), (rb, .inl (cI, 60, .inl fb)), (rc, .inl (cI, 60, .inl fc))]) hx hb hr hlocks hK (hP.sub [0, 1, 2, 3, 4] rfl) (hD.sub [0, 1, 2, 3, 4] (by decide) rfl) hS ?_ d_Row_numberAt_18
    exact ⟨by simp [nA, e_5], rfl⟩
  · skip
    have e_5 : (inB k n) = true := b2i_ne0 c_5
    refine lv_aload_n hx hb d_Row_numberAt_8 rfl (lv_at hl 0 rfl) ?_
    refine va_get (D := (dC, dI)) (ci := 0) (v := .ref rb) (C := R_Row) (T := T_Row) (N := 5) hx hb ht i_Row hown hK hP 0 rfl rfl 2 (by decide) (ht _ mw_31) (fun _ h9 => h9) rfl d_Row_numberAt_9 ?_
    refine lv_iload_n hx hb d_Row_numberAt_12 rfl (lv_at hl 1 rfl) ?_
    refine sm_iald (j := k.toNatClampNeg) hx hb hK hP 3 0 rfl rfl (sm_inB (inB_mono e_5 hn)) rfl d_Row_numberAt_13 ?_
    refine lv_goto (tgt := 18) hx hb d_Row_numberAt_14 (by decide) ?_
    refine sm_ri (v := fb k.toNatClampNeg) (ws := [(r, .inr (0, [.ref rk, .ref ra, .ref rb, .ref rc, .int (nI n)])), (rk, .inl (cI, 60, .inl fk)), (ra, .inl (cI, 60, .inl fa)), (rb, .inl (cI, 60, .inl fb)), (rc, .inl (cI, 60, .inl fc))]) hx hb hr hlocks hK (hP.sub [0, 1, 2, 3, 4] rfl) (hD.sub [0, 1, 2, 3, 4] (by decide) rfl) hS ?_ d_Row_numberAt_18
    exact ⟨by simp [nA, e_5], rfl⟩
abbrev y_Row_setAt : MethodName := ⟨"ScanMill$Row", "setAt", "(I)I"⟩
theorem d_Row_setAt_0 : decode prog_5_method_7_code 0 = .ok (.aload_n 0, 1) := by decide +kernel
theorem d_Row_setAt_1 : decode prog_5_method_7_code 1 = .ok (.iload_n 1, 1) := by decide +kernel
theorem d_Row_setAt_2 : decode prog_5_method_7_code 2 = .ok (.invokevirtual 36, 3) := by decide +kernel
theorem mw_217 : Cond.code ⟨"ScanMill$Row", "kindAt", "(I)I"⟩ prog_5_method_5_code 2 (Option.some FieldType.int) ∈ wG := wG_t 217 (by decide +kernel) (by decide +kernel)
theorem mw_214 : Cond.methodLink "ScanMill$Row" 36 ⟨"ScanMill$Row", "kindAt", "(I)I"⟩ ∈ wG := wG_t 214 (by decide +kernel) (by decide +kernel)
theorem mw_215 : Cond.instanceMethod ⟨"ScanMill$Row", "kindAt", "(I)I"⟩ ∈ wG := wG_t 215 (by decide +kernel) (by decide +kernel)
theorem mw_216 : Cond.selects "ScanMill$Row" ⟨"ScanMill$Row", "kindAt", "(I)I"⟩ ⟨"ScanMill$Row", "kindAt", "(I)I"⟩ ∈ wG := wG_t 216 (by decide +kernel) (by decide +kernel)
theorem d_Row_setAt_5 : decode prog_5_method_7_code 5 = .ok (.tableswitch 62 0 9 #[55, 55, 55, 55, 55, 55, 55, 62, 62, 55], 55) := by decide +kernel
theorem d_Row_setAt_60 : decode prog_5_method_7_code 60 = .ok (.aload_n 0, 1) := by decide +kernel
theorem d_Row_setAt_61 : decode prog_5_method_7_code 61 = .ok (.getfield 15, 3) := by decide +kernel
theorem mw_30 : Cond.fieldLink "ScanMill$Row" 15 "ScanMill$Row" "as" "[I" ∈ wG := wG_t 30 (by decide +kernel) (by decide +kernel)
theorem d_Row_setAt_64 : decode prog_5_method_7_code 64 = .ok (.iload_n 1, 1) := by decide +kernel
theorem d_Row_setAt_65 : decode prog_5_method_7_code 65 = .ok (.iaload, 1) := by decide +kernel
theorem d_Row_setAt_66 : decode prog_5_method_7_code 66 = .ok (.ireturn, 1) := by decide +kernel
theorem d_Row_setAt_67 : decode prog_5_method_7_code 67 = .ok (.iconst (-1), 1) := by decide +kernel
theorem d_Row_setAt_68 : decode prog_5_method_7_code 68 = .ok (.ireturn, 1) := by decide +kernel
set_option maxRecDepth 100000 in
set_option maxHeartbeats 4000000 in
theorem c_Row_setAt {l : Launch} {dC : Nat → ClassId} {dI : Nat → Nat → Nat} {cI cZ : ClassId} {r rk ra rb rc n : Nat} {fk fa fb fc : Nat → Int32} {k : Int32} (hn : n ≤ 60) : sm_I l y_Row_setAt prog_5_method_7_code 2 (some .int) (rmF 2 42) (dC, dI) smC [(cI, .int), (cZ, .boolean)] [.ref r, .int k] [(r, .inr (0, [.ref rk, .ref ra, .ref rb, .ref rc, .int (nI n)])), (rk, .inl (cI, 60, .inl fk)), (ra, .inl (cI, 60, .inl fa)), (rb, .inl (cI, 60, .inl fb)), (rc, .inl (cI, 60, .inl fc))] (fun q w2 => q = (sA n fk fa k) ∧ w2 = [(r, .inr (0, [.ref rk, .ref ra, .ref rb, .ref rc, .int (nI n)])), (rk, .inl (cI, 60, .inl fk)), (ra, .inl (cI, 60, .inl fa)), (rb, .inl (cI, 60, .inl fb)), (rc, .inl (cI, 60, .inl fc))]) := by
  refine sm_I.mk (by decide) (Nat.le_of_ble_eq_true rfl) ?_
  intro p e s m below meth c A H locs ls hx hb hr ht hown hlocks hml hnm hP hK hD hA hS hN hl
  have hl : lv_has ls 2 [(0, .ref r), (1, .int k)] := hl
  refine lv_aload_n hx hb d_Row_setAt_0 rfl (lv_at hl 0 rfl) ?_
  refine lv_iload_n hx hb d_Row_setAt_1 rfl (lv_at hl 1 rfl) ?_
  refine sm_goi (wc := [(r, .inr (0, [.ref rk, .ref ra, .ref rb, .ref rc, .int (nI n)])), (rk, .inl (cI, 60, .inl fk)), (ra, .inl (cI, 60, .inl fa)), (rb, .inl (cI, 60, .inl fb)), (rc, .inl (cI, 60, .inl fc))]) (wr := []) (va_runV (As := [.int k]) (rest := []) ⟨hx, hb, hml, hown, ht⟩ ((c_Row_kindAt (l := l) (dC := dC) (dI := dI) (cI := cI) (cZ := cZ) (r := r) (rk := rk) (ra := ra) (rb := rb) (rc := rc) (n := n) (fk := fk) (fa := fa) (fb := fb) (fc := fc) (k := k) (by first | assumption | omega)).at H.size) (sm_cV 1 ht mw_217 mw_2 mw_214 mw_215 mw_216 rfl rfl (by decide +kernel) ⟨Nat.le_of_ble_eq_true rfl, Nat.le_of_ble_eq_true rfl⟩) (sm_preV (ci := 0) hN hK hP hD [0, 1, 2, 3, 4] rfl rfl (by decide) 0 rfl rfl) rfl rfl hl.1 rfl (lv_room (Nat.le_of_ble_eq_true rfl)) d_Row_setAt_2 ⟨Nat.zero_le _, Nat.zero_le _⟩) hP hD hS hA [0, 1, 2, 3, 4] [] rfl rfl (by decide) (by decide) (fun r_2 w_2 H locs q_2 hP hD hS => ?_)
  obtain ⟨rfl, rfl⟩ := q_2
  have hP : va_P (dC, dI) smC [(r, .inr (0, [.ref rk, .ref ra, .ref rb, .ref rc, .int (nI n)])), (rk, .inl (cI, 60, .inl fk)), (ra, .inl (cI, 60, .inl fa)), (rb, .inl (cI, 60, .inl fb)), (rc, .inl (cI, 60, .inl fc))] H := hP
  have hD : va_D A [(r, .inr (0, [.ref rk, .ref ra, .ref rb, .ref rc, .int (nI n)])), (rk, .inl (cI, 60, .inl fk)), (ra, .inl (cI, 60, .inl fa)), (rb, .inl (cI, 60, .inl fb)), (rc, .inl (cI, 60, .inl fc))] := hD
  by_cases g_5_60 : (kA n fk k) = 0 ∨ (kA n fk k) = 1 ∨ (kA n fk k) = 2 ∨ (kA n fk k) = 3 ∨ (kA n fk k) = 4 ∨ (kA n fk k) = 5 ∨ (kA n fk k) = 6 ∨ (kA n fk k) = 9
  · skip
    refine sm_tab (tgt := 60) hx hb d_Row_setAt_5 (by rcases g_5_60 with h | h | h | h | h | h | h | h <;> (rw [h]; decide)) ?_
    refine lv_aload_n hx hb d_Row_setAt_60 rfl (lv_at hl 0 rfl) ?_
    refine va_get (D := (dC, dI)) (ci := 0) (v := .ref ra) (C := R_Row) (T := T_Row) (N := 5) hx hb ht i_Row hown hK hP 0 rfl rfl 1 (by decide) (ht _ mw_30) (fun _ h9 => h9) rfl d_Row_setAt_61 ?_
    refine lv_iload_n hx hb d_Row_setAt_64 rfl (lv_at hl 1 rfl) ?_
    refine sm_iald (j := k.toNatClampNeg) hx hb hK hP 2 0 rfl rfl (kA_vp hn (by rcases g_5_60 with h | h | h | h | h | h | h | h <;> (rw [h]; decide))) rfl d_Row_setAt_65 ?_
    refine sm_ri (v := fa k.toNatClampNeg) (ws := [(r, .inr (0, [.ref rk, .ref ra, .ref rb, .ref rc, .int (nI n)])), (rk, .inl (cI, 60, .inl fk)), (ra, .inl (cI, 60, .inl fa)), (rb, .inl (cI, 60, .inl fb)), (rc, .inl (cI, 60, .inl fc))]) hx hb hr hlocks hK (hP.sub [0, 1, 2, 3, 4] rfl) (hD.sub [0, 1, 2, 3, 4] (by decide) rfl) hS ?_ d_Row_setAt_66
    exact ⟨(if_pos g_5_60).symm, rfl⟩
  refine sm_tab (tgt := 67) hx hb d_Row_setAt_5 (sm_tabD [0, 1, 2, 3, 4, 5, 6, 9] ⟨fun z => g_5_60 (Or.inl z), fun z => g_5_60 (Or.inr (Or.inl z)), fun z => g_5_60 (Or.inr (Or.inr (Or.inl z))), fun z => g_5_60 (Or.inr (Or.inr (Or.inr (Or.inl z)))), fun z => g_5_60 (Or.inr (Or.inr (Or.inr (Or.inr (Or.inl z))))), fun z => g_5_60 (Or.inr (Or.inr (Or.inr (Or.inr (Or.inr (Or.inl z)))))), fun z => g_5_60 (Or.inr (Or.inr (Or.inr (Or.inr (Or.inr (Or.inr (Or.inl z))))))), fun z => g_5_60 (Or.inr (Or.inr (Or.inr (Or.inr (Or.inr (Or.inr (Or.inr (z)))))))), trivial⟩ (by decide) (by decide)) ?_
  refine lv_iconst (v := -1) hx hb d_Row_setAt_67 (by decide) ?_
  refine sm_ri (v := (-1 : Int32)) (ws := [(r, .inr (0, [.ref rk, .ref ra, .ref rb, .ref rc, .int (nI n)])), (rk, .inl (cI, 60, .inl fk)), (ra, .inl (cI, 60, .inl fa)), (rb, .inl (cI, 60, .inl fb)), (rc, .inl (cI, 60, .inl fc))]) hx hb hr hlocks hK (hP.sub [0, 1, 2, 3, 4] rfl) (hD.sub [0, 1, 2, 3, 4] (by decide) rfl) hS ?_ d_Row_setAt_68
  exact ⟨(if_neg g_5_60).symm, rfl⟩
abbrev y_Row_leftAt : MethodName := ⟨"ScanMill$Row", "leftAt", "(I)I"⟩
theorem d_Row_leftAt_0 : decode prog_5_method_8_code 0 = .ok (.aload_n 0, 1) := by decide +kernel
theorem d_Row_leftAt_1 : decode prog_5_method_8_code 1 = .ok (.iload_n 1, 1) := by decide +kernel
theorem d_Row_leftAt_2 : decode prog_5_method_8_code 2 = .ok (.invokevirtual 36, 3) := by decide +kernel
theorem d_Row_leftAt_5 : decode prog_5_method_8_code 5 = .ok (.tableswitch 69 1 10 #[55, 55, 55, 55, 55, 55, 69, 62, 69, 62], 55) := by decide +kernel
theorem d_Row_leftAt_60 : decode prog_5_method_8_code 60 = .ok (.aload_n 0, 1) := by decide +kernel
theorem d_Row_leftAt_61 : decode prog_5_method_8_code 61 = .ok (.getfield 18, 3) := by decide +kernel
theorem d_Row_leftAt_64 : decode prog_5_method_8_code 64 = .ok (.iload_n 1, 1) := by decide +kernel
theorem d_Row_leftAt_65 : decode prog_5_method_8_code 65 = .ok (.iaload, 1) := by decide +kernel
theorem d_Row_leftAt_66 : decode prog_5_method_8_code 66 = .ok (.ireturn, 1) := by decide +kernel
theorem d_Row_leftAt_67 : decode prog_5_method_8_code 67 = .ok (.aload_n 0, 1) := by decide +kernel
theorem d_Row_leftAt_68 : decode prog_5_method_8_code 68 = .ok (.getfield 15, 3) := by decide +kernel
theorem d_Row_leftAt_71 : decode prog_5_method_8_code 71 = .ok (.iload_n 1, 1) := by decide +kernel
theorem d_Row_leftAt_72 : decode prog_5_method_8_code 72 = .ok (.iaload, 1) := by decide +kernel
theorem d_Row_leftAt_73 : decode prog_5_method_8_code 73 = .ok (.ireturn, 1) := by decide +kernel
theorem d_Row_leftAt_74 : decode prog_5_method_8_code 74 = .ok (.iconst (-1), 1) := by decide +kernel
theorem d_Row_leftAt_75 : decode prog_5_method_8_code 75 = .ok (.ireturn, 1) := by decide +kernel
set_option maxRecDepth 100000 in
set_option maxHeartbeats 4000000 in
theorem c_Row_leftAt {l : Launch} {dC : Nat → ClassId} {dI : Nat → Nat → Nat} {cI cZ : ClassId} {r rk ra rb rc n : Nat} {fk fa fb fc : Nat → Int32} {k : Int32} (hn : n ≤ 60) : sm_I l y_Row_leftAt prog_5_method_8_code 2 (some .int) (rmF 2 42) (dC, dI) smC [(cI, .int), (cZ, .boolean)] [.ref r, .int k] [(r, .inr (0, [.ref rk, .ref ra, .ref rb, .ref rc, .int (nI n)])), (rk, .inl (cI, 60, .inl fk)), (ra, .inl (cI, 60, .inl fa)), (rb, .inl (cI, 60, .inl fb)), (rc, .inl (cI, 60, .inl fc))] (fun q w2 => q = (lA n fk fa fb k) ∧ w2 = [(r, .inr (0, [.ref rk, .ref ra, .ref rb, .ref rc, .int (nI n)])), (rk, .inl (cI, 60, .inl fk)), (ra, .inl (cI, 60, .inl fa)), (rb, .inl (cI, 60, .inl fb)), (rc, .inl (cI, 60, .inl fc))]) := by
  refine sm_I.mk (by decide) (Nat.le_of_ble_eq_true rfl) ?_
  intro p e s m below meth c A H locs ls hx hb hr ht hown hlocks hml hnm hP hK hD hA hS hN hl
  have hl : lv_has ls 2 [(0, .ref r), (1, .int k)] := hl
  refine lv_aload_n hx hb d_Row_leftAt_0 rfl (lv_at hl 0 rfl) ?_
  refine lv_iload_n hx hb d_Row_leftAt_1 rfl (lv_at hl 1 rfl) ?_
  refine sm_goi (wc := [(r, .inr (0, [.ref rk, .ref ra, .ref rb, .ref rc, .int (nI n)])), (rk, .inl (cI, 60, .inl fk)), (ra, .inl (cI, 60, .inl fa)), (rb, .inl (cI, 60, .inl fb)), (rc, .inl (cI, 60, .inl fc))]) (wr := []) (va_runV (As := [.int k]) (rest := []) ⟨hx, hb, hml, hown, ht⟩ ((c_Row_kindAt (l := l) (dC := dC) (dI := dI) (cI := cI) (cZ := cZ) (r := r) (rk := rk) (ra := ra) (rb := rb) (rc := rc) (n := n) (fk := fk) (fa := fa) (fb := fb) (fc := fc) (k := k) (by first | assumption | omega)).at H.size) (sm_cV 1 ht mw_217 mw_2 mw_214 mw_215 mw_216 rfl rfl (by decide +kernel) ⟨Nat.le_of_ble_eq_true rfl, Nat.le_of_ble_eq_true rfl⟩) (sm_preV (ci := 0) hN hK hP hD [0, 1, 2, 3, 4] rfl rfl (by decide) 0 rfl rfl) rfl rfl hl.1 rfl (lv_room (Nat.le_of_ble_eq_true rfl)) d_Row_leftAt_2 ⟨Nat.zero_le _, Nat.zero_le _⟩) hP hD hS hA [0, 1, 2, 3, 4] [] rfl rfl (by decide) (by decide) (fun r_2 w_2 H locs q_2 hP hD hS => ?_)
  obtain ⟨rfl, rfl⟩ := q_2
  have hP : va_P (dC, dI) smC [(r, .inr (0, [.ref rk, .ref ra, .ref rb, .ref rc, .int (nI n)])), (rk, .inl (cI, 60, .inl fk)), (ra, .inl (cI, 60, .inl fa)), (rb, .inl (cI, 60, .inl fb)), (rc, .inl (cI, 60, .inl fc))] H := hP
  have hD : va_D A [(r, .inr (0, [.ref rk, .ref ra, .ref rb, .ref rc, .int (nI n)])), (rk, .inl (cI, 60, .inl fk)), (ra, .inl (cI, 60, .inl fa)), (rb, .inl (cI, 60, .inl fb)), (rc, .inl (cI, 60, .inl fc))] := hD
  by_cases g_5_60 : (kA n fk k) = 1 ∨ (kA n fk k) = 2 ∨ (kA n fk k) = 3 ∨ (kA n fk k) = 4 ∨ (kA n fk k) = 5 ∨ (kA n fk k) = 6
  · skip
    refine sm_tab (tgt := 60) hx hb d_Row_leftAt_5 (by rcases g_5_60 with h | h | h | h | h | h <;> (rw [h]; decide)) ?_
    refine lv_aload_n hx hb d_Row_leftAt_60 rfl (lv_at hl 0 rfl) ?_
    refine va_get (D := (dC, dI)) (ci := 0) (v := .ref rb) (C := R_Row) (T := T_Row) (N := 5) hx hb ht i_Row hown hK hP 0 rfl rfl 2 (by decide) (ht _ mw_31) (fun _ h9 => h9) rfl d_Row_leftAt_61 ?_
    refine lv_iload_n hx hb d_Row_leftAt_64 rfl (lv_at hl 1 rfl) ?_
    refine sm_iald (j := k.toNatClampNeg) hx hb hK hP 3 0 rfl rfl (kA_vp hn (by rcases g_5_60 with h | h | h | h | h | h <;> (rw [h]; decide))) rfl d_Row_leftAt_65 ?_
    refine sm_ri (v := fb k.toNatClampNeg) (ws := [(r, .inr (0, [.ref rk, .ref ra, .ref rb, .ref rc, .int (nI n)])), (rk, .inl (cI, 60, .inl fk)), (ra, .inl (cI, 60, .inl fa)), (rb, .inl (cI, 60, .inl fb)), (rc, .inl (cI, 60, .inl fc))]) hx hb hr hlocks hK (hP.sub [0, 1, 2, 3, 4] rfl) (hD.sub [0, 1, 2, 3, 4] (by decide) rfl) hS ?_ d_Row_leftAt_66
    exact ⟨(if_pos g_5_60).symm, rfl⟩
  by_cases g_5_67 : (kA n fk k) = 8 ∨ (kA n fk k) = 10
  · skip
    refine sm_tab (tgt := 67) hx hb d_Row_leftAt_5 (by rcases g_5_67 with h | h <;> (rw [h]; decide)) ?_
    refine lv_aload_n hx hb d_Row_leftAt_67 rfl (lv_at hl 0 rfl) ?_
    refine va_get (D := (dC, dI)) (ci := 0) (v := .ref ra) (C := R_Row) (T := T_Row) (N := 5) hx hb ht i_Row hown hK hP 0 rfl rfl 1 (by decide) (ht _ mw_30) (fun _ h9 => h9) rfl d_Row_leftAt_68 ?_
    refine lv_iload_n hx hb d_Row_leftAt_71 rfl (lv_at hl 1 rfl) ?_
    refine sm_iald (j := k.toNatClampNeg) hx hb hK hP 2 0 rfl rfl (kA_vp hn (by rcases g_5_67 with h | h <;> (rw [h]; decide))) rfl d_Row_leftAt_72 ?_
    refine sm_ri (v := fa k.toNatClampNeg) (ws := [(r, .inr (0, [.ref rk, .ref ra, .ref rb, .ref rc, .int (nI n)])), (rk, .inl (cI, 60, .inl fk)), (ra, .inl (cI, 60, .inl fa)), (rb, .inl (cI, 60, .inl fb)), (rc, .inl (cI, 60, .inl fc))]) hx hb hr hlocks hK (hP.sub [0, 1, 2, 3, 4] rfl) (hD.sub [0, 1, 2, 3, 4] (by decide) rfl) hS ?_ d_Row_leftAt_73
    exact ⟨((if_neg g_5_60).trans (if_pos g_5_67)).symm, rfl⟩
  refine sm_tab (tgt := 74) hx hb d_Row_leftAt_5 (sm_tabD [1, 2, 3, 4, 5, 6, 8, 10] ⟨fun z => g_5_60 (Or.inl z), fun z => g_5_60 (Or.inr (Or.inl z)), fun z => g_5_60 (Or.inr (Or.inr (Or.inl z))), fun z => g_5_60 (Or.inr (Or.inr (Or.inr (Or.inl z)))), fun z => g_5_60 (Or.inr (Or.inr (Or.inr (Or.inr (Or.inl z))))), fun z => g_5_60 (Or.inr (Or.inr (Or.inr (Or.inr (Or.inr (z)))))), fun z => g_5_67 (Or.inl z), fun z => g_5_67 (Or.inr (z)), trivial⟩ (by decide) (by decide)) ?_
  refine lv_iconst (v := -1) hx hb d_Row_leftAt_74 (by decide) ?_
  refine sm_ri (v := (-1 : Int32)) (ws := [(r, .inr (0, [.ref rk, .ref ra, .ref rb, .ref rc, .int (nI n)])), (rk, .inl (cI, 60, .inl fk)), (ra, .inl (cI, 60, .inl fa)), (rb, .inl (cI, 60, .inl fb)), (rc, .inl (cI, 60, .inl fc))]) hx hb hr hlocks hK (hP.sub [0, 1, 2, 3, 4] rfl) (hD.sub [0, 1, 2, 3, 4] (by decide) rfl) hS ?_ d_Row_leftAt_75
  exact ⟨((if_neg g_5_60).trans (if_neg g_5_67)).symm, rfl⟩
abbrev y_Row_rightAt : MethodName := ⟨"ScanMill$Row", "rightAt", "(I)I"⟩
theorem d_Row_rightAt_0 : decode prog_5_method_9_code 0 = .ok (.aload_n 0, 1) := by decide +kernel
theorem d_Row_rightAt_1 : decode prog_5_method_9_code 1 = .ok (.iload_n 1, 1) := by decide +kernel
theorem d_Row_rightAt_2 : decode prog_5_method_9_code 2 = .ok (.invokevirtual 36, 3) := by decide +kernel
theorem d_Row_rightAt_5 : decode prog_5_method_9_code 5 = .ok (.tableswitch 42 1 5 #[35, 35, 35, 35, 35], 35) := by decide +kernel
theorem d_Row_rightAt_40 : decode prog_5_method_9_code 40 = .ok (.aload_n 0, 1) := by decide +kernel
theorem d_Row_rightAt_41 : decode prog_5_method_9_code 41 = .ok (.getfield 21, 3) := by decide +kernel
theorem mw_32 : Cond.fieldLink "ScanMill$Row" 21 "ScanMill$Row" "cs" "[I" ∈ wG := wG_t 32 (by decide +kernel) (by decide +kernel)
theorem d_Row_rightAt_44 : decode prog_5_method_9_code 44 = .ok (.iload_n 1, 1) := by decide +kernel
theorem d_Row_rightAt_45 : decode prog_5_method_9_code 45 = .ok (.iaload, 1) := by decide +kernel
theorem d_Row_rightAt_46 : decode prog_5_method_9_code 46 = .ok (.ireturn, 1) := by decide +kernel
theorem d_Row_rightAt_47 : decode prog_5_method_9_code 47 = .ok (.iconst (-1), 1) := by decide +kernel
theorem d_Row_rightAt_48 : decode prog_5_method_9_code 48 = .ok (.ireturn, 1) := by decide +kernel
set_option maxRecDepth 100000 in
set_option maxHeartbeats 4000000 in
theorem c_Row_rightAt {l : Launch} {dC : Nat → ClassId} {dI : Nat → Nat → Nat} {cI cZ : ClassId} {r rk ra rb rc n : Nat} {fk fa fb fc : Nat → Int32} {k : Int32} (hn : n ≤ 60) : sm_I l y_Row_rightAt prog_5_method_9_code 2 (some .int) (rmF 2 42) (dC, dI) smC [(cI, .int), (cZ, .boolean)] [.ref r, .int k] [(r, .inr (0, [.ref rk, .ref ra, .ref rb, .ref rc, .int (nI n)])), (rk, .inl (cI, 60, .inl fk)), (ra, .inl (cI, 60, .inl fa)), (rb, .inl (cI, 60, .inl fb)), (rc, .inl (cI, 60, .inl fc))] (fun q w2 => q = (rA n fk fc k) ∧ w2 = [(r, .inr (0, [.ref rk, .ref ra, .ref rb, .ref rc, .int (nI n)])), (rk, .inl (cI, 60, .inl fk)), (ra, .inl (cI, 60, .inl fa)), (rb, .inl (cI, 60, .inl fb)), (rc, .inl (cI, 60, .inl fc))]) := by
  refine sm_I.mk (by decide) (Nat.le_of_ble_eq_true rfl) ?_
  intro p e s m below meth c A H locs ls hx hb hr ht hown hlocks hml hnm hP hK hD hA hS hN hl
  have hl : lv_has ls 2 [(0, .ref r), (1, .int k)] := hl
  refine lv_aload_n hx hb d_Row_rightAt_0 rfl (lv_at hl 0 rfl) ?_
  refine lv_iload_n hx hb d_Row_rightAt_1 rfl (lv_at hl 1 rfl) ?_
  refine sm_goi (wc := [(r, .inr (0, [.ref rk, .ref ra, .ref rb, .ref rc, .int (nI n)])), (rk, .inl (cI, 60, .inl fk)), (ra, .inl (cI, 60, .inl fa)), (rb, .inl (cI, 60, .inl fb)), (rc, .inl (cI, 60, .inl fc))]) (wr := []) (va_runV (As := [.int k]) (rest := []) ⟨hx, hb, hml, hown, ht⟩ ((c_Row_kindAt (l := l) (dC := dC) (dI := dI) (cI := cI) (cZ := cZ) (r := r) (rk := rk) (ra := ra) (rb := rb) (rc := rc) (n := n) (fk := fk) (fa := fa) (fb := fb) (fc := fc) (k := k) (by first | assumption | omega)).at H.size) (sm_cV 1 ht mw_217 mw_2 mw_214 mw_215 mw_216 rfl rfl (by decide +kernel) ⟨Nat.le_of_ble_eq_true rfl, Nat.le_of_ble_eq_true rfl⟩) (sm_preV (ci := 0) hN hK hP hD [0, 1, 2, 3, 4] rfl rfl (by decide) 0 rfl rfl) rfl rfl hl.1 rfl (lv_room (Nat.le_of_ble_eq_true rfl)) d_Row_rightAt_2 ⟨Nat.zero_le _, Nat.zero_le _⟩) hP hD hS hA [0, 1, 2, 3, 4] [] rfl rfl (by decide) (by decide) (fun r_2 w_2 H locs q_2 hP hD hS => ?_)
  obtain ⟨rfl, rfl⟩ := q_2
  have hP : va_P (dC, dI) smC [(r, .inr (0, [.ref rk, .ref ra, .ref rb, .ref rc, .int (nI n)])), (rk, .inl (cI, 60, .inl fk)), (ra, .inl (cI, 60, .inl fa)), (rb, .inl (cI, 60, .inl fb)), (rc, .inl (cI, 60, .inl fc))] H := hP
  have hD : va_D A [(r, .inr (0, [.ref rk, .ref ra, .ref rb, .ref rc, .int (nI n)])), (rk, .inl (cI, 60, .inl fk)), (ra, .inl (cI, 60, .inl fa)), (rb, .inl (cI, 60, .inl fb)), (rc, .inl (cI, 60, .inl fc))] := hD
  by_cases g_5_40 : (kA n fk k) = 1 ∨ (kA n fk k) = 2 ∨ (kA n fk k) = 3 ∨ (kA n fk k) = 4 ∨ (kA n fk k) = 5
  · skip
    refine sm_tab (tgt := 40) hx hb d_Row_rightAt_5 (by rcases g_5_40 with h | h | h | h | h <;> (rw [h]; decide)) ?_
    refine lv_aload_n hx hb d_Row_rightAt_40 rfl (lv_at hl 0 rfl) ?_
    refine va_get (D := (dC, dI)) (ci := 0) (v := .ref rc) (C := R_Row) (T := T_Row) (N := 5) hx hb ht i_Row hown hK hP 0 rfl rfl 3 (by decide) (ht _ mw_32) (fun _ h9 => h9) rfl d_Row_rightAt_41 ?_
    refine lv_iload_n hx hb d_Row_rightAt_44 rfl (lv_at hl 1 rfl) ?_
    refine sm_iald (j := k.toNatClampNeg) hx hb hK hP 4 0 rfl rfl (kA_vp hn (by rcases g_5_40 with h | h | h | h | h <;> (rw [h]; decide))) rfl d_Row_rightAt_45 ?_
    refine sm_ri (v := fc k.toNatClampNeg) (ws := [(r, .inr (0, [.ref rk, .ref ra, .ref rb, .ref rc, .int (nI n)])), (rk, .inl (cI, 60, .inl fk)), (ra, .inl (cI, 60, .inl fa)), (rb, .inl (cI, 60, .inl fb)), (rc, .inl (cI, 60, .inl fc))]) hx hb hr hlocks hK (hP.sub [0, 1, 2, 3, 4] rfl) (hD.sub [0, 1, 2, 3, 4] (by decide) rfl) hS ?_ d_Row_rightAt_46
    exact ⟨(if_pos g_5_40).symm, rfl⟩
  refine sm_tab (tgt := 47) hx hb d_Row_rightAt_5 (sm_tabD [1, 2, 3, 4, 5] ⟨fun z => g_5_40 (Or.inl z), fun z => g_5_40 (Or.inr (Or.inl z)), fun z => g_5_40 (Or.inr (Or.inr (Or.inl z))), fun z => g_5_40 (Or.inr (Or.inr (Or.inr (Or.inl z)))), fun z => g_5_40 (Or.inr (Or.inr (Or.inr (Or.inr (z))))), trivial⟩ (by decide) (by decide)) ?_
  refine lv_iconst (v := -1) hx hb d_Row_rightAt_47 (by decide) ?_
  refine sm_ri (v := (-1 : Int32)) (ws := [(r, .inr (0, [.ref rk, .ref ra, .ref rb, .ref rc, .int (nI n)])), (rk, .inl (cI, 60, .inl fk)), (ra, .inl (cI, 60, .inl fa)), (rb, .inl (cI, 60, .inl fb)), (rc, .inl (cI, 60, .inl fc))]) hx hb hr hlocks hK (hP.sub [0, 1, 2, 3, 4] rfl) (hD.sub [0, 1, 2, 3, 4] (by decide) rfl) hS ?_ d_Row_rightAt_48
  exact ⟨(if_neg g_5_40).symm, rfl⟩
abbrev y_Row_targetAt : MethodName := ⟨"ScanMill$Row", "targetAt", "(I)I"⟩
theorem d_Row_targetAt_0 : decode prog_5_method_10_code 0 = .ok (.aload_n 0, 1) := by decide +kernel
theorem d_Row_targetAt_1 : decode prog_5_method_10_code 1 = .ok (.iload_n 1, 1) := by decide +kernel
theorem d_Row_targetAt_2 : decode prog_5_method_10_code 2 = .ok (.invokevirtual 36, 3) := by decide +kernel
theorem d_Row_targetAt_5 : decode prog_5_method_10_code 5 = .ok (.lookupswitch 41 #[(7, 27), (8, 34)], 27) := by decide +kernel
theorem d_Row_targetAt_32 : decode prog_5_method_10_code 32 = .ok (.aload_n 0, 1) := by decide +kernel
theorem d_Row_targetAt_33 : decode prog_5_method_10_code 33 = .ok (.getfield 15, 3) := by decide +kernel
theorem d_Row_targetAt_36 : decode prog_5_method_10_code 36 = .ok (.iload_n 1, 1) := by decide +kernel
theorem d_Row_targetAt_37 : decode prog_5_method_10_code 37 = .ok (.iaload, 1) := by decide +kernel
theorem d_Row_targetAt_38 : decode prog_5_method_10_code 38 = .ok (.ireturn, 1) := by decide +kernel
theorem d_Row_targetAt_39 : decode prog_5_method_10_code 39 = .ok (.aload_n 0, 1) := by decide +kernel
theorem d_Row_targetAt_40 : decode prog_5_method_10_code 40 = .ok (.getfield 18, 3) := by decide +kernel
theorem d_Row_targetAt_43 : decode prog_5_method_10_code 43 = .ok (.iload_n 1, 1) := by decide +kernel
theorem d_Row_targetAt_44 : decode prog_5_method_10_code 44 = .ok (.iaload, 1) := by decide +kernel
theorem d_Row_targetAt_45 : decode prog_5_method_10_code 45 = .ok (.ireturn, 1) := by decide +kernel
theorem d_Row_targetAt_46 : decode prog_5_method_10_code 46 = .ok (.iconst (-1), 1) := by decide +kernel
theorem d_Row_targetAt_47 : decode prog_5_method_10_code 47 = .ok (.ireturn, 1) := by decide +kernel
set_option maxRecDepth 100000 in
set_option maxHeartbeats 4000000 in
theorem c_Row_targetAt {l : Launch} {dC : Nat → ClassId} {dI : Nat → Nat → Nat} {cI cZ : ClassId} {r rk ra rb rc n : Nat} {fk fa fb fc : Nat → Int32} {k : Int32} (hn : n ≤ 60) : sm_I l y_Row_targetAt prog_5_method_10_code 2 (some .int) (rmF 2 42) (dC, dI) smC [(cI, .int), (cZ, .boolean)] [.ref r, .int k] [(r, .inr (0, [.ref rk, .ref ra, .ref rb, .ref rc, .int (nI n)])), (rk, .inl (cI, 60, .inl fk)), (ra, .inl (cI, 60, .inl fa)), (rb, .inl (cI, 60, .inl fb)), (rc, .inl (cI, 60, .inl fc))] (fun q w2 => q = (tA n fk fa fb k) ∧ w2 = [(r, .inr (0, [.ref rk, .ref ra, .ref rb, .ref rc, .int (nI n)])), (rk, .inl (cI, 60, .inl fk)), (ra, .inl (cI, 60, .inl fa)), (rb, .inl (cI, 60, .inl fb)), (rc, .inl (cI, 60, .inl fc))]) := by
  refine sm_I.mk (by decide) (Nat.le_of_ble_eq_true rfl) ?_
  intro p e s m below meth c A H locs ls hx hb hr ht hown hlocks hml hnm hP hK hD hA hS hN hl
  have hl : lv_has ls 2 [(0, .ref r), (1, .int k)] := hl
  refine lv_aload_n hx hb d_Row_targetAt_0 rfl (lv_at hl 0 rfl) ?_
  refine lv_iload_n hx hb d_Row_targetAt_1 rfl (lv_at hl 1 rfl) ?_
  refine sm_goi (wc := [(r, .inr (0, [.ref rk, .ref ra, .ref rb, .ref rc, .int (nI n)])), (rk, .inl (cI, 60, .inl fk)), (ra, .inl (cI, 60, .inl fa)), (rb, .inl (cI, 60, .inl fb)), (rc, .inl (cI, 60, .inl fc))]) (wr := []) (va_runV (As := [.int k]) (rest := []) ⟨hx, hb, hml, hown, ht⟩ ((c_Row_kindAt (l := l) (dC := dC) (dI := dI) (cI := cI) (cZ := cZ) (r := r) (rk := rk) (ra := ra) (rb := rb) (rc := rc) (n := n) (fk := fk) (fa := fa) (fb := fb) (fc := fc) (k := k) (by first | assumption | omega)).at H.size) (sm_cV 1 ht mw_217 mw_2 mw_214 mw_215 mw_216 rfl rfl (by decide +kernel) ⟨Nat.le_of_ble_eq_true rfl, Nat.le_of_ble_eq_true rfl⟩) (sm_preV (ci := 0) hN hK hP hD [0, 1, 2, 3, 4] rfl rfl (by decide) 0 rfl rfl) rfl rfl hl.1 rfl (lv_room (Nat.le_of_ble_eq_true rfl)) d_Row_targetAt_2 ⟨Nat.zero_le _, Nat.zero_le _⟩) hP hD hS hA [0, 1, 2, 3, 4] [] rfl rfl (by decide) (by decide) (fun r_2 w_2 H locs q_2 hP hD hS => ?_)
  obtain ⟨rfl, rfl⟩ := q_2
  have hP : va_P (dC, dI) smC [(r, .inr (0, [.ref rk, .ref ra, .ref rb, .ref rc, .int (nI n)])), (rk, .inl (cI, 60, .inl fk)), (ra, .inl (cI, 60, .inl fa)), (rb, .inl (cI, 60, .inl fb)), (rc, .inl (cI, 60, .inl fc))] H := hP
  have hD : va_D A [(r, .inr (0, [.ref rk, .ref ra, .ref rb, .ref rc, .int (nI n)])), (rk, .inl (cI, 60, .inl fk)), (ra, .inl (cI, 60, .inl fa)), (rb, .inl (cI, 60, .inl fb)), (rc, .inl (cI, 60, .inl fc))] := hD
  by_cases g_5_32 : (kA n fk k) = 7
  · skip
    refine sm_look (tgt := 32) hx hb d_Row_targetAt_5 (by rw [g_5_32]; decide) ?_
    refine lv_aload_n hx hb d_Row_targetAt_32 rfl (lv_at hl 0 rfl) ?_
    refine va_get (D := (dC, dI)) (ci := 0) (v := .ref ra) (C := R_Row) (T := T_Row) (N := 5) hx hb ht i_Row hown hK hP 0 rfl rfl 1 (by decide) (ht _ mw_30) (fun _ h9 => h9) rfl d_Row_targetAt_33 ?_
    refine lv_iload_n hx hb d_Row_targetAt_36 rfl (lv_at hl 1 rfl) ?_
    refine sm_iald (j := k.toNatClampNeg) hx hb hK hP 2 0 rfl rfl (kA_vp hn (by rw [g_5_32]; decide)) rfl d_Row_targetAt_37 ?_
    refine sm_ri (v := fa k.toNatClampNeg) (ws := [(r, .inr (0, [.ref rk, .ref ra, .ref rb, .ref rc, .int (nI n)])), (rk, .inl (cI, 60, .inl fk)), (ra, .inl (cI, 60, .inl fa)), (rb, .inl (cI, 60, .inl fb)), (rc, .inl (cI, 60, .inl fc))]) hx hb hr hlocks hK (hP.sub [0, 1, 2, 3, 4] rfl) (hD.sub [0, 1, 2, 3, 4] (by decide) rfl) hS ?_ d_Row_targetAt_38
    exact ⟨(if_pos g_5_32).symm, rfl⟩
  by_cases g_5_39 : (kA n fk k) = 8
  · skip
    refine sm_look (tgt := 39) hx hb d_Row_targetAt_5 (by rw [g_5_39]; decide) ?_
    refine lv_aload_n hx hb d_Row_targetAt_39 rfl (lv_at hl 0 rfl) ?_
    refine va_get (D := (dC, dI)) (ci := 0) (v := .ref rb) (C := R_Row) (T := T_Row) (N := 5) hx hb ht i_Row hown hK hP 0 rfl rfl 2 (by decide) (ht _ mw_31) (fun _ h9 => h9) rfl d_Row_targetAt_40 ?_
    refine lv_iload_n hx hb d_Row_targetAt_43 rfl (lv_at hl 1 rfl) ?_
    refine sm_iald (j := k.toNatClampNeg) hx hb hK hP 3 0 rfl rfl (kA_vp hn (by rw [g_5_39]; decide)) rfl d_Row_targetAt_44 ?_
    refine sm_ri (v := fb k.toNatClampNeg) (ws := [(r, .inr (0, [.ref rk, .ref ra, .ref rb, .ref rc, .int (nI n)])), (rk, .inl (cI, 60, .inl fk)), (ra, .inl (cI, 60, .inl fa)), (rb, .inl (cI, 60, .inl fb)), (rc, .inl (cI, 60, .inl fc))]) hx hb hr hlocks hK (hP.sub [0, 1, 2, 3, 4] rfl) (hD.sub [0, 1, 2, 3, 4] (by decide) rfl) hS ?_ d_Row_targetAt_45
    exact ⟨((if_neg g_5_32).trans (if_pos g_5_39)).symm, rfl⟩
  refine sm_look (tgt := 46) hx hb d_Row_targetAt_5 (sm_lookD [7, 8] ⟨fun z => g_5_32 (z), fun z => g_5_39 (z), trivial⟩ (by decide) (by decide)) ?_
  refine lv_iconst (v := -1) hx hb d_Row_targetAt_46 (by decide) ?_
  refine sm_ri (v := (-1 : Int32)) (ws := [(r, .inr (0, [.ref rk, .ref ra, .ref rb, .ref rc, .int (nI n)])), (rk, .inl (cI, 60, .inl fk)), (ra, .inl (cI, 60, .inl fa)), (rb, .inl (cI, 60, .inl fb)), (rc, .inl (cI, 60, .inl fc))]) hx hb hr hlocks hK (hP.sub [0, 1, 2, 3, 4] rfl) (hD.sub [0, 1, 2, 3, 4] (by decide) rfl) hS ?_ d_Row_targetAt_47
  exact ⟨((if_neg g_5_32).trans (if_neg g_5_39)).symm, rfl⟩
abbrev y_Row_isOp : MethodName := ⟨"ScanMill$Row", "isOp", "(IIII)Z"⟩
theorem d_Row_isOp_0 : decode prog_5_method_12_code 0 = .ok (.iload_n 0, 1) := by decide +kernel
theorem d_Row_isOp_1 : decode prog_5_method_12_code 1 = .ok (.tableswitch 136 0 10 #[59, 64, 64, 64, 64, 64, 91, 111, 116, 59, 59], 59) := by decide +kernel
theorem d_Row_isOp_60 : decode prog_5_method_12_code 60 = .ok (.iload_n 1, 1) := by decide +kernel
theorem d_Row_isOp_61 : decode prog_5_method_12_code 61 = .ok (.invokestatic 40, 3) := by decide +kernel
theorem mw_163 : Cond.code ⟨"ScanMill", "isValue", "(I)Z"⟩ prog_1_method_18_code 1 (Option.some FieldType.boolean) ∈ wG := wG_t 163 (by decide +kernel) (by decide +kernel)
theorem mw_1 : Cond.initialized "ScanMill" ∈ wG := wG_t 1 (by decide +kernel) (by decide +kernel)
theorem mw_162 : Cond.static ⟨"ScanMill", "isValue", "(I)Z"⟩ ∈ wG := wG_t 162 (by decide +kernel) (by decide +kernel)
theorem d_Row_isOp_64 : decode prog_5_method_12_code 64 = .ok (.ireturn, 1) := by decide +kernel
theorem d_Row_isOp_65 : decode prog_5_method_12_code 65 = .ok (.iload_n 1, 1) := by decide +kernel
theorem d_Row_isOp_66 : decode prog_5_method_12_code 66 = .ok (.invokestatic 40, 3) := by decide +kernel
theorem d_Row_isOp_69 : decode prog_5_method_12_code 69 = .ok (.ifCond .eq 21, 3) := by decide +kernel
theorem d_Row_isOp_90 : decode prog_5_method_12_code 90 = .ok (.iconst 0, 1) := by decide +kernel
theorem d_Row_isOp_91 : decode prog_5_method_12_code 91 = .ok (.ireturn, 1) := by decide +kernel
theorem d_Row_isOp_72 : decode prog_5_method_12_code 72 = .ok (.iload_n 2, 1) := by decide +kernel
theorem d_Row_isOp_73 : decode prog_5_method_12_code 73 = .ok (.invokestatic 40, 3) := by decide +kernel
theorem d_Row_isOp_76 : decode prog_5_method_12_code 76 = .ok (.ifCond .eq 14, 3) := by decide +kernel
theorem d_Row_isOp_79 : decode prog_5_method_12_code 79 = .ok (.iload_n 3, 1) := by decide +kernel
theorem d_Row_isOp_80 : decode prog_5_method_12_code 80 = .ok (.invokestatic 40, 3) := by decide +kernel
theorem d_Row_isOp_83 : decode prog_5_method_12_code 83 = .ok (.ifCond .eq 7, 3) := by decide +kernel
theorem d_Row_isOp_86 : decode prog_5_method_12_code 86 = .ok (.iconst 1, 1) := by decide +kernel
theorem d_Row_isOp_87 : decode prog_5_method_12_code 87 = .ok (.goto 4, 3) := by decide +kernel
theorem d_Row_isOp_92 : decode prog_5_method_12_code 92 = .ok (.iload_n 1, 1) := by decide +kernel
theorem d_Row_isOp_93 : decode prog_5_method_12_code 93 = .ok (.invokestatic 40, 3) := by decide +kernel
theorem d_Row_isOp_96 : decode prog_5_method_12_code 96 = .ok (.ifCond .eq 14, 3) := by decide +kernel
theorem d_Row_isOp_110 : decode prog_5_method_12_code 110 = .ok (.iconst 0, 1) := by decide +kernel
theorem d_Row_isOp_111 : decode prog_5_method_12_code 111 = .ok (.ireturn, 1) := by decide +kernel
theorem d_Row_isOp_99 : decode prog_5_method_12_code 99 = .ok (.iload_n 2, 1) := by decide +kernel
theorem d_Row_isOp_100 : decode prog_5_method_12_code 100 = .ok (.invokestatic 40, 3) := by decide +kernel
theorem d_Row_isOp_103 : decode prog_5_method_12_code 103 = .ok (.ifCond .eq 7, 3) := by decide +kernel
theorem d_Row_isOp_106 : decode prog_5_method_12_code 106 = .ok (.iconst 1, 1) := by decide +kernel
theorem d_Row_isOp_107 : decode prog_5_method_12_code 107 = .ok (.goto 4, 3) := by decide +kernel
theorem d_Row_isOp_112 : decode prog_5_method_12_code 112 = .ok (.iload_n 1, 1) := by decide +kernel
theorem d_Row_isOp_113 : decode prog_5_method_12_code 113 = .ok (.invokestatic 43, 3) := by decide +kernel
theorem mw_166 : Cond.code ⟨"ScanMill", "isTarget", "(I)Z"⟩ prog_1_method_19_code 1 (Option.some FieldType.boolean) ∈ wG := wG_t 166 (by decide +kernel) (by decide +kernel)
theorem mw_165 : Cond.static ⟨"ScanMill", "isTarget", "(I)Z"⟩ ∈ wG := wG_t 165 (by decide +kernel) (by decide +kernel)
theorem d_Row_isOp_116 : decode prog_5_method_12_code 116 = .ok (.ireturn, 1) := by decide +kernel
theorem d_Row_isOp_117 : decode prog_5_method_12_code 117 = .ok (.iload_n 1, 1) := by decide +kernel
theorem d_Row_isOp_118 : decode prog_5_method_12_code 118 = .ok (.invokestatic 40, 3) := by decide +kernel
theorem d_Row_isOp_121 : decode prog_5_method_12_code 121 = .ok (.ifCond .eq 14, 3) := by decide +kernel
theorem d_Row_isOp_135 : decode prog_5_method_12_code 135 = .ok (.iconst 0, 1) := by decide +kernel
theorem d_Row_isOp_136 : decode prog_5_method_12_code 136 = .ok (.ireturn, 1) := by decide +kernel
theorem d_Row_isOp_124 : decode prog_5_method_12_code 124 = .ok (.iload_n 2, 1) := by decide +kernel
theorem d_Row_isOp_125 : decode prog_5_method_12_code 125 = .ok (.invokestatic 43, 3) := by decide +kernel
theorem d_Row_isOp_128 : decode prog_5_method_12_code 128 = .ok (.ifCond .eq 7, 3) := by decide +kernel
theorem d_Row_isOp_131 : decode prog_5_method_12_code 131 = .ok (.iconst 1, 1) := by decide +kernel
theorem d_Row_isOp_132 : decode prog_5_method_12_code 132 = .ok (.goto 4, 3) := by decide +kernel
theorem d_Row_isOp_137 : decode prog_5_method_12_code 137 = .ok (.iload_n 0, 1) := by decide +kernel
theorem d_Row_isOp_138 : decode prog_5_method_12_code 138 = .ok (.bipush 11, 2) := by decide +kernel
theorem d_Row_isOp_140 : decode prog_5_method_12_code 140 = .ok (.if_icmp .ne 7, 3) := by decide +kernel
theorem d_Row_isOp_147 : decode prog_5_method_12_code 147 = .ok (.iconst 0, 1) := by decide +kernel
theorem d_Row_isOp_148 : decode prog_5_method_12_code 148 = .ok (.ireturn, 1) := by decide +kernel
theorem d_Row_isOp_143 : decode prog_5_method_12_code 143 = .ok (.iconst 1, 1) := by decide +kernel
theorem d_Row_isOp_144 : decode prog_5_method_12_code 144 = .ok (.goto 4, 3) := by decide +kernel
set_option maxRecDepth 100000 in
set_option maxHeartbeats 4000000 in
theorem c_Row_isOp {l : Launch} {dC : Nat → ClassId} {dI : Nat → Nat → Nat} {cI cZ : ClassId} {k va vb vc : Int32}  : sm_I l y_Row_isOp prog_5_method_12_code 4 (some .boolean) (rmF 1 20) (dC, dI) smC [(cI, .int), (cZ, .boolean)] [.int k, .int va, .int vb, .int vc] [] (fun q w2 => q = (b2i (okOp k va vb vc)) ∧ w2 = []) := by
  refine sm_I.mk (by decide) (Nat.le_of_ble_eq_true rfl) ?_
  intro p e s m below meth c A H locs ls hx hb hr ht hown hlocks hml hnm hP hK hD hA hS hN hl
  have hl : lv_has ls 4 [(0, .int k), (1, .int va), (2, .int vb), (3, .int vc)] := hl
  refine lv_iload_n hx hb d_Row_isOp_0 rfl (lv_at hl 0 rfl) ?_
  by_cases g_1_60 : k = 0 ∨ k = 9 ∨ k = 10
  · skip
    refine sm_tab (tgt := 60) hx hb d_Row_isOp_1 (by rcases g_1_60 with h | h | h <;> (rw [h]; decide)) ?_
    refine lv_iload_n hx hb d_Row_isOp_60 rfl (lv_at hl 1 rfl) ?_
    refine sm_goi (wc := []) (wr := []) (va_runSN (As := [.int va]) (rest := []) ⟨hx, hb, hml, hown, ht⟩ ((c_Mill_isValue (l := l) (dC := dC) (dI := dI) (cI := cI) (cZ := cZ) (v := va) ).at H.size) (sm_cN 1 ht mw_163 mw_1 hN.1 mw_162 rfl rfl (by decide +kernel) ⟨Nat.le_of_ble_eq_true rfl, Nat.le_of_ble_eq_true rfl⟩) (sm_preS hN hK hP hD [] rfl rfl (by decide)) rfl rfl hl.1 rfl (lv_room (Nat.le_of_ble_eq_true rfl)) d_Row_isOp_61 ⟨Nat.zero_le _, Nat.zero_le _⟩) hP hD hS hA [] [] rfl rfl (by decide) (by decide) (fun r_61 w_61 H locs q_61 hP hD hS => ?_)
    obtain ⟨rfl, rfl⟩ := q_61
    have hP : va_P (dC, dI) smC [] H := hP
    have hD : va_D A [] := hD
    refine sm_rz (v := b2i (inB va 24)) (ws := []) hx hb hr hlocks hK (hP.sub [] rfl) (hD.sub [] (by decide) rfl) hS (by first | assumption | exact b2i_01 _) ?_ d_Row_isOp_64
    exact ⟨by simp only [okOp, if_pos g_1_60] <;> simp [b2i], rfl⟩
  by_cases g_1_65 : k = 1 ∨ k = 2 ∨ k = 3 ∨ k = 4 ∨ k = 5
  · skip
    refine sm_tab (tgt := 65) hx hb d_Row_isOp_1 (by rcases g_1_65 with h | h | h | h | h <;> (rw [h]; decide)) ?_
    refine lv_iload_n hx hb d_Row_isOp_65 rfl (lv_at hl 1 rfl) ?_
    refine sm_goi (wc := []) (wr := []) (va_runSN (As := [.int va]) (rest := []) ⟨hx, hb, hml, hown, ht⟩ ((c_Mill_isValue (l := l) (dC := dC) (dI := dI) (cI := cI) (cZ := cZ) (v := va) ).at H.size) (sm_cN 1 ht mw_163 mw_1 hN.1 mw_162 rfl rfl (by decide +kernel) ⟨Nat.le_of_ble_eq_true rfl, Nat.le_of_ble_eq_true rfl⟩) (sm_preS hN hK hP hD [] rfl rfl (by decide)) rfl rfl hl.1 rfl (lv_room (Nat.le_of_ble_eq_true rfl)) d_Row_isOp_66 ⟨Nat.zero_le _, Nat.zero_le _⟩) hP hD hS hA [] [] rfl rfl (by decide) (by decide) (fun r_66 w_66 H locs q_66 hP hD hS => ?_)
    obtain ⟨rfl, rfl⟩ := q_66
    have hP : va_P (dC, dI) smC [] H := hP
    have hD : va_D A [] := hD
    refine lv_if_eq (tgt := 90) hx hb d_Row_isOp_69 (by decide) (fun c_69 => ?_) (fun c_69 => ?_)
    · skip
      have e_69 : (inB va 24) = false := b2i_eq0 c_69
      refine lv_iconst (v := 0) hx hb d_Row_isOp_90 (by decide) ?_
      refine sm_rz (v := (0 : Int32)) (ws := []) hx hb hr hlocks hK (hP.sub [] rfl) (hD.sub [] (by decide) rfl) hS (by decide) ?_ d_Row_isOp_91
      exact ⟨by simp only [okOp, if_neg g_1_60, if_pos g_1_65] <;> simp [b2i, e_69], rfl⟩
    · skip
      have e_69 : (inB va 24) = true := b2i_ne0 c_69
      refine lv_iload_n hx hb d_Row_isOp_72 rfl (lv_at hl 2 rfl) ?_
      refine sm_goi (wc := []) (wr := []) (va_runSN (As := [.int vb]) (rest := []) ⟨hx, hb, hml, hown, ht⟩ ((c_Mill_isValue (l := l) (dC := dC) (dI := dI) (cI := cI) (cZ := cZ) (v := vb) ).at H.size) (sm_cN 1 ht mw_163 mw_1 hN.1 mw_162 rfl rfl (by decide +kernel) ⟨Nat.le_of_ble_eq_true rfl, Nat.le_of_ble_eq_true rfl⟩) (sm_preS hN hK hP hD [] rfl rfl (by decide)) rfl rfl hl.1 rfl (lv_room (Nat.le_of_ble_eq_true rfl)) d_Row_isOp_73 ⟨Nat.zero_le _, Nat.zero_le _⟩) hP hD hS hA [] [] rfl rfl (by decide) (by decide) (fun r_73 w_73 H locs q_73 hP hD hS => ?_)
      obtain ⟨rfl, rfl⟩ := q_73
      have hP : va_P (dC, dI) smC [] H := hP
      have hD : va_D A [] := hD
      refine lv_if_eq (tgt := 90) hx hb d_Row_isOp_76 (by decide) (fun c_76 => ?_) (fun c_76 => ?_)
      · skip
        have e_76 : (inB vb 24) = false := b2i_eq0 c_76
        refine lv_iconst (v := 0) hx hb d_Row_isOp_90 (by decide) ?_
        refine sm_rz (v := (0 : Int32)) (ws := []) hx hb hr hlocks hK (hP.sub [] rfl) (hD.sub [] (by decide) rfl) hS (by decide) ?_ d_Row_isOp_91
        exact ⟨by simp only [okOp, if_neg g_1_60, if_pos g_1_65] <;> simp [b2i, e_69, e_76], rfl⟩
      · skip
        have e_76 : (inB vb 24) = true := b2i_ne0 c_76
        refine lv_iload_n hx hb d_Row_isOp_79 rfl (lv_at hl 3 rfl) ?_
        refine sm_goi (wc := []) (wr := []) (va_runSN (As := [.int vc]) (rest := []) ⟨hx, hb, hml, hown, ht⟩ ((c_Mill_isValue (l := l) (dC := dC) (dI := dI) (cI := cI) (cZ := cZ) (v := vc) ).at H.size) (sm_cN 1 ht mw_163 mw_1 hN.1 mw_162 rfl rfl (by decide +kernel) ⟨Nat.le_of_ble_eq_true rfl, Nat.le_of_ble_eq_true rfl⟩) (sm_preS hN hK hP hD [] rfl rfl (by decide)) rfl rfl hl.1 rfl (lv_room (Nat.le_of_ble_eq_true rfl)) d_Row_isOp_80 ⟨Nat.zero_le _, Nat.zero_le _⟩) hP hD hS hA [] [] rfl rfl (by decide) (by decide) (fun r_80 w_80 H locs q_80 hP hD hS => ?_)
        obtain ⟨rfl, rfl⟩ := q_80
        have hP : va_P (dC, dI) smC [] H := hP
        have hD : va_D A [] := hD
        refine lv_if_eq (tgt := 90) hx hb d_Row_isOp_83 (by decide) (fun c_83 => ?_) (fun c_83 => ?_)
        · skip
          have e_83 : (inB vc 24) = false := b2i_eq0 c_83
          refine lv_iconst (v := 0) hx hb d_Row_isOp_90 (by decide) ?_
          refine sm_rz (v := (0 : Int32)) (ws := []) hx hb hr hlocks hK (hP.sub [] rfl) (hD.sub [] (by decide) rfl) hS (by decide) ?_ d_Row_isOp_91
          exact ⟨by simp only [okOp, if_neg g_1_60, if_pos g_1_65] <;> simp [b2i, e_69, e_76, e_83], rfl⟩
        · skip
          have e_83 : (inB vc 24) = true := b2i_ne0 c_83
          refine lv_iconst (v := 1) hx hb d_Row_isOp_86 (by decide) ?_
          refine lv_goto (tgt := 91) hx hb d_Row_isOp_87 (by decide) ?_
          refine sm_rz (v := (1 : Int32)) (ws := []) hx hb hr hlocks hK (hP.sub [] rfl) (hD.sub [] (by decide) rfl) hS (by decide) ?_ d_Row_isOp_91
          exact ⟨by simp only [okOp, if_neg g_1_60, if_pos g_1_65] <;> simp [b2i, e_69, e_76, e_83], rfl⟩
  by_cases g_1_92 : k = 6
  · skip
    refine sm_tab (tgt := 92) hx hb d_Row_isOp_1 (by rw [g_1_92]; decide) ?_
    refine lv_iload_n hx hb d_Row_isOp_92 rfl (lv_at hl 1 rfl) ?_
    refine sm_goi (wc := []) (wr := []) (va_runSN (As := [.int va]) (rest := []) ⟨hx, hb, hml, hown, ht⟩ ((c_Mill_isValue (l := l) (dC := dC) (dI := dI) (cI := cI) (cZ := cZ) (v := va) ).at H.size) (sm_cN 1 ht mw_163 mw_1 hN.1 mw_162 rfl rfl (by decide +kernel) ⟨Nat.le_of_ble_eq_true rfl, Nat.le_of_ble_eq_true rfl⟩) (sm_preS hN hK hP hD [] rfl rfl (by decide)) rfl rfl hl.1 rfl (lv_room (Nat.le_of_ble_eq_true rfl)) d_Row_isOp_93 ⟨Nat.zero_le _, Nat.zero_le _⟩) hP hD hS hA [] [] rfl rfl (by decide) (by decide) (fun r_93 w_93 H locs q_93 hP hD hS => ?_)
    obtain ⟨rfl, rfl⟩ := q_93
    have hP : va_P (dC, dI) smC [] H := hP
    have hD : va_D A [] := hD
    refine lv_if_eq (tgt := 110) hx hb d_Row_isOp_96 (by decide) (fun c_96 => ?_) (fun c_96 => ?_)
    · skip
      have e_96 : (inB va 24) = false := b2i_eq0 c_96
      refine lv_iconst (v := 0) hx hb d_Row_isOp_110 (by decide) ?_
      refine sm_rz (v := (0 : Int32)) (ws := []) hx hb hr hlocks hK (hP.sub [] rfl) (hD.sub [] (by decide) rfl) hS (by decide) ?_ d_Row_isOp_111
      exact ⟨by simp only [okOp, if_neg g_1_60, if_neg g_1_65, if_pos g_1_92] <;> simp [b2i, e_96], rfl⟩
    · skip
      have e_96 : (inB va 24) = true := b2i_ne0 c_96
      refine lv_iload_n hx hb d_Row_isOp_99 rfl (lv_at hl 2 rfl) ?_
      refine sm_goi (wc := []) (wr := []) (va_runSN (As := [.int vb]) (rest := []) ⟨hx, hb, hml, hown, ht⟩ ((c_Mill_isValue (l := l) (dC := dC) (dI := dI) (cI := cI) (cZ := cZ) (v := vb) ).at H.size) (sm_cN 1 ht mw_163 mw_1 hN.1 mw_162 rfl rfl (by decide +kernel) ⟨Nat.le_of_ble_eq_true rfl, Nat.le_of_ble_eq_true rfl⟩) (sm_preS hN hK hP hD [] rfl rfl (by decide)) rfl rfl hl.1 rfl (lv_room (Nat.le_of_ble_eq_true rfl)) d_Row_isOp_100 ⟨Nat.zero_le _, Nat.zero_le _⟩) hP hD hS hA [] [] rfl rfl (by decide) (by decide) (fun r_100 w_100 H locs q_100 hP hD hS => ?_)
      obtain ⟨rfl, rfl⟩ := q_100
      have hP : va_P (dC, dI) smC [] H := hP
      have hD : va_D A [] := hD
      refine lv_if_eq (tgt := 110) hx hb d_Row_isOp_103 (by decide) (fun c_103 => ?_) (fun c_103 => ?_)
      · skip
        have e_103 : (inB vb 24) = false := b2i_eq0 c_103
        refine lv_iconst (v := 0) hx hb d_Row_isOp_110 (by decide) ?_
        refine sm_rz (v := (0 : Int32)) (ws := []) hx hb hr hlocks hK (hP.sub [] rfl) (hD.sub [] (by decide) rfl) hS (by decide) ?_ d_Row_isOp_111
        exact ⟨by simp only [okOp, if_neg g_1_60, if_neg g_1_65, if_pos g_1_92] <;> simp [b2i, e_96, e_103], rfl⟩
      · skip
        have e_103 : (inB vb 24) = true := b2i_ne0 c_103
        refine lv_iconst (v := 1) hx hb d_Row_isOp_106 (by decide) ?_
        refine lv_goto (tgt := 111) hx hb d_Row_isOp_107 (by decide) ?_
        refine sm_rz (v := (1 : Int32)) (ws := []) hx hb hr hlocks hK (hP.sub [] rfl) (hD.sub [] (by decide) rfl) hS (by decide) ?_ d_Row_isOp_111
        exact ⟨by simp only [okOp, if_neg g_1_60, if_neg g_1_65, if_pos g_1_92] <;> simp [b2i, e_96, e_103], rfl⟩
  by_cases g_1_112 : k = 7
  · skip
    refine sm_tab (tgt := 112) hx hb d_Row_isOp_1 (by rw [g_1_112]; decide) ?_
    refine lv_iload_n hx hb d_Row_isOp_112 rfl (lv_at hl 1 rfl) ?_
    refine sm_goi (wc := []) (wr := []) (va_runSN (As := [.int va]) (rest := []) ⟨hx, hb, hml, hown, ht⟩ ((c_Mill_isTarget (l := l) (dC := dC) (dI := dI) (cI := cI) (cZ := cZ) (v := va) ).at H.size) (sm_cN 1 ht mw_166 mw_1 hN.2.1 mw_165 rfl rfl (by decide +kernel) ⟨Nat.le_of_ble_eq_true rfl, Nat.le_of_ble_eq_true rfl⟩) (sm_preS hN hK hP hD [] rfl rfl (by decide)) rfl rfl hl.1 rfl (lv_room (Nat.le_of_ble_eq_true rfl)) d_Row_isOp_113 ⟨Nat.zero_le _, Nat.zero_le _⟩) hP hD hS hA [] [] rfl rfl (by decide) (by decide) (fun r_113 w_113 H locs q_113 hP hD hS => ?_)
    obtain ⟨rfl, rfl⟩ := q_113
    have hP : va_P (dC, dI) smC [] H := hP
    have hD : va_D A [] := hD
    refine sm_rz (v := b2i (inB va 61)) (ws := []) hx hb hr hlocks hK (hP.sub [] rfl) (hD.sub [] (by decide) rfl) hS (by first | assumption | exact b2i_01 _) ?_ d_Row_isOp_116
    exact ⟨by simp only [okOp, if_neg g_1_60, if_neg g_1_65, if_neg g_1_92, if_pos g_1_112] <;> simp [b2i], rfl⟩
  by_cases g_1_117 : k = 8
  · skip
    refine sm_tab (tgt := 117) hx hb d_Row_isOp_1 (by rw [g_1_117]; decide) ?_
    refine lv_iload_n hx hb d_Row_isOp_117 rfl (lv_at hl 1 rfl) ?_
    refine sm_goi (wc := []) (wr := []) (va_runSN (As := [.int va]) (rest := []) ⟨hx, hb, hml, hown, ht⟩ ((c_Mill_isValue (l := l) (dC := dC) (dI := dI) (cI := cI) (cZ := cZ) (v := va) ).at H.size) (sm_cN 1 ht mw_163 mw_1 hN.1 mw_162 rfl rfl (by decide +kernel) ⟨Nat.le_of_ble_eq_true rfl, Nat.le_of_ble_eq_true rfl⟩) (sm_preS hN hK hP hD [] rfl rfl (by decide)) rfl rfl hl.1 rfl (lv_room (Nat.le_of_ble_eq_true rfl)) d_Row_isOp_118 ⟨Nat.zero_le _, Nat.zero_le _⟩) hP hD hS hA [] [] rfl rfl (by decide) (by decide) (fun r_118 w_118 H locs q_118 hP hD hS => ?_)
    obtain ⟨rfl, rfl⟩ := q_118
    have hP : va_P (dC, dI) smC [] H := hP
    have hD : va_D A [] := hD
    refine lv_if_eq (tgt := 135) hx hb d_Row_isOp_121 (by decide) (fun c_121 => ?_) (fun c_121 => ?_)
    · skip
      have e_121 : (inB va 24) = false := b2i_eq0 c_121
      refine lv_iconst (v := 0) hx hb d_Row_isOp_135 (by decide) ?_
      refine sm_rz (v := (0 : Int32)) (ws := []) hx hb hr hlocks hK (hP.sub [] rfl) (hD.sub [] (by decide) rfl) hS (by decide) ?_ d_Row_isOp_136
      exact ⟨by simp only [okOp, if_neg g_1_60, if_neg g_1_65, if_neg g_1_92, if_neg g_1_112, if_pos g_1_117] <;> simp [b2i, e_121], rfl⟩
    · skip
      have e_121 : (inB va 24) = true := b2i_ne0 c_121
      refine lv_iload_n hx hb d_Row_isOp_124 rfl (lv_at hl 2 rfl) ?_
      refine sm_goi (wc := []) (wr := []) (va_runSN (As := [.int vb]) (rest := []) ⟨hx, hb, hml, hown, ht⟩ ((c_Mill_isTarget (l := l) (dC := dC) (dI := dI) (cI := cI) (cZ := cZ) (v := vb) ).at H.size) (sm_cN 1 ht mw_166 mw_1 hN.2.1 mw_165 rfl rfl (by decide +kernel) ⟨Nat.le_of_ble_eq_true rfl, Nat.le_of_ble_eq_true rfl⟩) (sm_preS hN hK hP hD [] rfl rfl (by decide)) rfl rfl hl.1 rfl (lv_room (Nat.le_of_ble_eq_true rfl)) d_Row_isOp_125 ⟨Nat.zero_le _, Nat.zero_le _⟩) hP hD hS hA [] [] rfl rfl (by decide) (by decide) (fun r_125 w_125 H locs q_125 hP hD hS => ?_)
      obtain ⟨rfl, rfl⟩ := q_125
      have hP : va_P (dC, dI) smC [] H := hP
      have hD : va_D A [] := hD
      refine lv_if_eq (tgt := 135) hx hb d_Row_isOp_128 (by decide) (fun c_128 => ?_) (fun c_128 => ?_)
      · skip
        have e_128 : (inB vb 61) = false := b2i_eq0 c_128
        refine lv_iconst (v := 0) hx hb d_Row_isOp_135 (by decide) ?_
        refine sm_rz (v := (0 : Int32)) (ws := []) hx hb hr hlocks hK (hP.sub [] rfl) (hD.sub [] (by decide) rfl) hS (by decide) ?_ d_Row_isOp_136
        exact ⟨by simp only [okOp, if_neg g_1_60, if_neg g_1_65, if_neg g_1_92, if_neg g_1_112, if_pos g_1_117] <;> simp [b2i, e_121, e_128], rfl⟩
      · skip
        have e_128 : (inB vb 61) = true := b2i_ne0 c_128
        refine lv_iconst (v := 1) hx hb d_Row_isOp_131 (by decide) ?_
        refine lv_goto (tgt := 136) hx hb d_Row_isOp_132 (by decide) ?_
        refine sm_rz (v := (1 : Int32)) (ws := []) hx hb hr hlocks hK (hP.sub [] rfl) (hD.sub [] (by decide) rfl) hS (by decide) ?_ d_Row_isOp_136
        exact ⟨by simp only [okOp, if_neg g_1_60, if_neg g_1_65, if_neg g_1_92, if_neg g_1_112, if_pos g_1_117] <;> simp [b2i, e_121, e_128], rfl⟩
  refine sm_tab (tgt := 137) hx hb d_Row_isOp_1 (sm_tabD [0, 9, 10, 1, 2, 3, 4, 5, 6, 7, 8] ⟨fun z => g_1_60 (Or.inl z), fun z => g_1_60 (Or.inr (Or.inl z)), fun z => g_1_60 (Or.inr (Or.inr (z))), fun z => g_1_65 (Or.inl z), fun z => g_1_65 (Or.inr (Or.inl z)), fun z => g_1_65 (Or.inr (Or.inr (Or.inl z))), fun z => g_1_65 (Or.inr (Or.inr (Or.inr (Or.inl z)))), fun z => g_1_65 (Or.inr (Or.inr (Or.inr (Or.inr (z))))), fun z => g_1_92 (z), fun z => g_1_112 (z), fun z => g_1_117 (z), trivial⟩ (by decide) (by decide)) ?_
  refine lv_iload_n hx hb d_Row_isOp_137 rfl (lv_at hl 0 rfl) ?_
  refine lv_bipush (v := 11) hx hb d_Row_isOp_138 (by decide) ?_
  refine lv_icmp_ne (tgt := 147) hx hb d_Row_isOp_140 (by decide) (fun c_140 => ?_) (fun c_140 => ?_)
  · skip
    refine lv_iconst (v := 0) hx hb d_Row_isOp_147 (by decide) ?_
    refine sm_rz (v := (0 : Int32)) (ws := []) hx hb hr hlocks hK (hP.sub [] rfl) (hD.sub [] (by decide) rfl) hS (by decide) ?_ d_Row_isOp_148
    exact ⟨by simp only [okOp, if_neg g_1_60, if_neg g_1_65, if_neg g_1_92, if_neg g_1_112, if_neg g_1_117] <;> simp [b2i, c_140], rfl⟩
  · skip
    refine lv_iconst (v := 1) hx hb d_Row_isOp_143 (by decide) ?_
    refine lv_goto (tgt := 148) hx hb d_Row_isOp_144 (by decide) ?_
    refine sm_rz (v := (1 : Int32)) (ws := []) hx hb hr hlocks hK (hP.sub [] rfl) (hD.sub [] (by decide) rfl) hS (by decide) ?_ d_Row_isOp_148
    exact ⟨by simp only [okOp, if_neg g_1_60, if_neg g_1_65, if_neg g_1_92, if_neg g_1_112, if_neg g_1_117] <;> simp [b2i, c_140], rfl⟩
abbrev y_Row_append : MethodName := ⟨"ScanMill$Row", "append", "(IIII)I"⟩
theorem d_Row_append_0 : decode prog_5_method_4_code 0 = .ok (.aload_n 0, 1) := by decide +kernel
theorem d_Row_append_1 : decode prog_5_method_4_code 1 = .ok (.getfield 24, 3) := by decide +kernel
theorem d_Row_append_4 : decode prog_5_method_4_code 4 = .ok (.bipush 60, 2) := by decide +kernel
theorem d_Row_append_6 : decode prog_5_method_4_code 6 = .ok (.if_icmp .ge 14, 3) := by decide +kernel
theorem d_Row_append_20 : decode prog_5_method_4_code 20 = .ok (.iconst (-1), 1) := by decide +kernel
theorem d_Row_append_21 : decode prog_5_method_4_code 21 = .ok (.ireturn, 1) := by decide +kernel
theorem d_Row_append_9 : decode prog_5_method_4_code 9 = .ok (.iload_n 1, 1) := by decide +kernel
theorem d_Row_append_10 : decode prog_5_method_4_code 10 = .ok (.iload_n 2, 1) := by decide +kernel
theorem d_Row_append_11 : decode prog_5_method_4_code 11 = .ok (.iload_n 3, 1) := by decide +kernel
theorem d_Row_append_12 : decode prog_5_method_4_code 12 = .ok (.iload 4, 2) := by decide +kernel
theorem d_Row_append_14 : decode prog_5_method_4_code 14 = .ok (.invokestatic 28, 3) := by decide +kernel
theorem mw_160 : Cond.code ⟨"ScanMill$Row", "isOp", "(IIII)Z"⟩ prog_5_method_12_code 4 (Option.some FieldType.boolean) ∈ wG := wG_t 160 (by decide +kernel) (by decide +kernel)
theorem mw_159 : Cond.static ⟨"ScanMill$Row", "isOp", "(IIII)Z"⟩ ∈ wG := wG_t 159 (by decide +kernel) (by decide +kernel)
theorem mw_158 : Cond.methodLink "ScanMill$Row" 28 ⟨"ScanMill$Row", "isOp", "(IIII)Z"⟩ ∈ wG := wG_t 158 (by decide +kernel) (by decide +kernel)
theorem d_Row_append_17 : decode prog_5_method_4_code 17 = .ok (.ifCond .ne 5, 3) := by decide +kernel
theorem d_Row_append_22 : decode prog_5_method_4_code 22 = .ok (.aload_n 0, 1) := by decide +kernel
theorem d_Row_append_23 : decode prog_5_method_4_code 23 = .ok (.getfield 24, 3) := by decide +kernel
theorem d_Row_append_26 : decode prog_5_method_4_code 26 = .ok (.istore 5, 2) := by decide +kernel
theorem d_Row_append_28 : decode prog_5_method_4_code 28 = .ok (.aload_n 0, 1) := by decide +kernel
theorem d_Row_append_29 : decode prog_5_method_4_code 29 = .ok (.getfield 9, 3) := by decide +kernel
theorem d_Row_append_32 : decode prog_5_method_4_code 32 = .ok (.iload 5, 2) := by decide +kernel
theorem d_Row_append_34 : decode prog_5_method_4_code 34 = .ok (.iload_n 1, 1) := by decide +kernel
theorem d_Row_append_35 : decode prog_5_method_4_code 35 = .ok (.iastore, 1) := by decide +kernel
theorem d_Row_append_36 : decode prog_5_method_4_code 36 = .ok (.aload_n 0, 1) := by decide +kernel
theorem d_Row_append_37 : decode prog_5_method_4_code 37 = .ok (.getfield 15, 3) := by decide +kernel
theorem d_Row_append_40 : decode prog_5_method_4_code 40 = .ok (.iload 5, 2) := by decide +kernel
theorem d_Row_append_42 : decode prog_5_method_4_code 42 = .ok (.iload_n 2, 1) := by decide +kernel
theorem d_Row_append_43 : decode prog_5_method_4_code 43 = .ok (.iastore, 1) := by decide +kernel
theorem d_Row_append_44 : decode prog_5_method_4_code 44 = .ok (.aload_n 0, 1) := by decide +kernel
theorem d_Row_append_45 : decode prog_5_method_4_code 45 = .ok (.getfield 18, 3) := by decide +kernel
theorem d_Row_append_48 : decode prog_5_method_4_code 48 = .ok (.iload 5, 2) := by decide +kernel
theorem d_Row_append_50 : decode prog_5_method_4_code 50 = .ok (.iload_n 3, 1) := by decide +kernel
theorem d_Row_append_51 : decode prog_5_method_4_code 51 = .ok (.iastore, 1) := by decide +kernel
theorem d_Row_append_52 : decode prog_5_method_4_code 52 = .ok (.aload_n 0, 1) := by decide +kernel
theorem d_Row_append_53 : decode prog_5_method_4_code 53 = .ok (.getfield 21, 3) := by decide +kernel
theorem d_Row_append_56 : decode prog_5_method_4_code 56 = .ok (.iload 5, 2) := by decide +kernel
theorem d_Row_append_58 : decode prog_5_method_4_code 58 = .ok (.iload 4, 2) := by decide +kernel
theorem d_Row_append_60 : decode prog_5_method_4_code 60 = .ok (.iastore, 1) := by decide +kernel
theorem d_Row_append_61 : decode prog_5_method_4_code 61 = .ok (.aload_n 0, 1) := by decide +kernel
theorem d_Row_append_62 : decode prog_5_method_4_code 62 = .ok (.dup, 1) := by decide +kernel
theorem d_Row_append_63 : decode prog_5_method_4_code 63 = .ok (.getfield 24, 3) := by decide +kernel
theorem d_Row_append_66 : decode prog_5_method_4_code 66 = .ok (.iconst 1, 1) := by decide +kernel
theorem d_Row_append_67 : decode prog_5_method_4_code 67 = .ok (.iadd, 1) := by decide +kernel
theorem d_Row_append_68 : decode prog_5_method_4_code 68 = .ok (.putfield 24, 3) := by decide +kernel
theorem d_Row_append_71 : decode prog_5_method_4_code 71 = .ok (.iload 5, 2) := by decide +kernel
theorem d_Row_append_73 : decode prog_5_method_4_code 73 = .ok (.ireturn, 1) := by decide +kernel
set_option maxRecDepth 100000 in
set_option maxHeartbeats 4000000 in
theorem c_Row_append {l : Launch} {dC : Nat → ClassId} {dI : Nat → Nat → Nat} {cI cZ : ClassId} {r rk ra rb rc n : Nat} {fk fa fb fc : Nat → Int32} {k va vb vc : Int32} (hn : n ≤ 60) : sm_I l y_Row_append prog_5_method_4_code 6 (some .int) (rmF 2 43) (dC, dI) smC [(cI, .int), (cZ, .boolean)] [.ref r, .int k, .int va, .int vb, .int vc] [(r, .inr (0, [.ref rk, .ref ra, .ref rb, .ref rc, .int (nI n)])), (rk, .inl (cI, 60, .inl fk)), (ra, .inl (cI, 60, .inl fa)), (rb, .inl (cI, 60, .inl fb)), (rc, .inl (cI, 60, .inl fc))] (fun q w2 => (n < 60 ∧ okOp k va vb vc = true ∧ q = (nI n) ∧ w2 = [(r, .inr (0, [.ref rk, .ref ra, .ref rb, .ref rc, .int (nI (n + 1))])), (rk, .inl (cI, 60, .inl (upd fk n k))), (ra, .inl (cI, 60, .inl (upd fa n va))), (rb, .inl (cI, 60, .inl (upd fb n vb))), (rc, .inl (cI, 60, .inl (upd fc n vc)))]) ∨ (¬ (n < 60 ∧ okOp k va vb vc = true) ∧ q = ((-1 : Int32)) ∧ w2 = [(r, .inr (0, [.ref rk, .ref ra, .ref rb, .ref rc, .int (nI n)])), (rk, .inl (cI, 60, .inl fk)), (ra, .inl (cI, 60, .inl fa)), (rb, .inl (cI, 60, .inl fb)), (rc, .inl (cI, 60, .inl fc))])) := by
  refine sm_I.mk (by decide) (Nat.le_of_ble_eq_true rfl) ?_
  intro p e s m below meth c A H locs ls hx hb hr ht hown hlocks hml hnm hP hK hD hA hS hN hl
  have hl : lv_has ls 6 [(0, .ref r), (1, .int k), (2, .int va), (3, .int vb), (4, .int vc)] := hl
  refine lv_aload_n hx hb d_Row_append_0 rfl (lv_at hl 0 rfl) ?_
  refine va_get (D := (dC, dI)) (ci := 0) (v := .int (nI n)) (C := R_Row) (T := T_Row) (N := 5) hx hb ht i_Row hown hK hP 0 rfl rfl 4 (by decide) (ht _ mw_33) (fun _ h9 => h9) rfl d_Row_append_1 ?_
  refine lv_bipush (v := 60) hx hb d_Row_append_4 (by decide) ?_
  refine lv_icmp_ge (tgt := 20) hx hb d_Row_append_6 (by decide) (fun c_6 => ?_) (fun c_6 => ?_)
  · skip
    have f_6 : 60 ≤ n := (nI_leI (a := 60) (b := n) (by first | omega | decide) (by first | omega | decide)).mp c_6
    refine lv_iconst (v := -1) hx hb d_Row_append_20 (by decide) ?_
    refine sm_ri (v := (-1 : Int32)) (ws := [(r, .inr (0, [.ref rk, .ref ra, .ref rb, .ref rc, .int (nI n)])), (rk, .inl (cI, 60, .inl fk)), (ra, .inl (cI, 60, .inl fa)), (rb, .inl (cI, 60, .inl fb)), (rc, .inl (cI, 60, .inl fc))]) hx hb hr hlocks hK (hP.sub [0, 1, 2, 3, 4] rfl) (hD.sub [0, 1, 2, 3, 4] (by decide) rfl) hS ?_ d_Row_append_21
    exact Or.inr ⟨fun z => by omega, rfl, rfl⟩
  · skip
    have f_6 : ¬ 60 ≤ n := fun z => c_6 ((nI_leI (a := 60) (b := n) (by first | omega | decide) (by first | omega | decide)).mpr z)
    refine lv_iload_n hx hb d_Row_append_9 rfl (lv_at hl 1 rfl) ?_
    refine lv_iload_n hx hb d_Row_append_10 rfl (lv_at hl 2 rfl) ?_
    refine lv_iload_n hx hb d_Row_append_11 rfl (lv_at hl 3 rfl) ?_
    refine lv_iload hx hb d_Row_append_12 (lv_at hl 4 rfl) ?_
    refine sm_goi (wc := []) (wr := [(r, .inr (0, [.ref rk, .ref ra, .ref rb, .ref rc, .int (nI n)])), (rk, .inl (cI, 60, .inl fk)), (ra, .inl (cI, 60, .inl fa)), (rb, .inl (cI, 60, .inl fb)), (rc, .inl (cI, 60, .inl fc))]) (va_runS (As := [.int k, .int va, .int vb, .int vc]) (rest := []) ⟨hx, hb, hml, hown, ht⟩ ((c_Row_isOp (l := l) (dC := dC) (dI := dI) (cI := cI) (cZ := cZ) (k := k) (va := va) (vb := vb) (vc := vc) ).at H.size) (sm_cS 4 ht mw_160 mw_2 mw_158 mw_159 rfl rfl (by decide +kernel) ⟨Nat.le_of_ble_eq_true rfl, Nat.le_of_ble_eq_true rfl⟩) (sm_preS hN hK hP hD [] rfl rfl (by decide)) rfl rfl hl.1 rfl (lv_room (Nat.le_of_ble_eq_true rfl)) d_Row_append_14 ⟨Nat.zero_le _, Nat.zero_le _⟩) hP hD hS hA [] [0, 1, 2, 3, 4] rfl rfl (by decide) (by decide) (fun r_14 w_14 H locs q_14 hP hD hS => ?_)
    obtain ⟨rfl, rfl⟩ := q_14
    have hP : va_P (dC, dI) smC [(r, .inr (0, [.ref rk, .ref ra, .ref rb, .ref rc, .int (nI n)])), (rk, .inl (cI, 60, .inl fk)), (ra, .inl (cI, 60, .inl fa)), (rb, .inl (cI, 60, .inl fb)), (rc, .inl (cI, 60, .inl fc))] H := hP
    have hD : va_D A [(r, .inr (0, [.ref rk, .ref ra, .ref rb, .ref rc, .int (nI n)])), (rk, .inl (cI, 60, .inl fk)), (ra, .inl (cI, 60, .inl fa)), (rb, .inl (cI, 60, .inl fb)), (rc, .inl (cI, 60, .inl fc))] := hD
    refine lv_if_ne (tgt := 22) hx hb d_Row_append_17 (by decide) (fun c_17 => ?_) (fun c_17 => ?_)
    · skip
      have e_17 : (okOp k va vb vc) = true := b2i_ne0 c_17
      refine lv_aload_n hx hb d_Row_append_22 rfl (lv_at hl 0 rfl) ?_
      refine va_get (D := (dC, dI)) (ci := 0) (v := .int (nI n)) (C := R_Row) (T := T_Row) (N := 5) hx hb ht i_Row hown hK hP 0 rfl rfl 4 (by decide) (ht _ mw_33) (fun _ h9 => h9) rfl d_Row_append_23 ?_
      refine lv_istore (lv' := [(5, .int (nI n)), (0, .ref r), (1, .int k), (2, .int va), (3, .int vb), (4, .int vc)]) hx hb d_Row_append_26 hl (by decide) rfl (fun ls hl => ?_)
      refine lv_aload_n hx hb d_Row_append_28 rfl (lv_at hl 1 rfl) ?_
      refine va_get (D := (dC, dI)) (ci := 0) (v := .ref rk) (C := R_Row) (T := T_Row) (N := 5) hx hb ht i_Row hown hK hP 0 rfl rfl 0 (by decide) (ht _ mw_29) (fun _ h9 => h9) rfl d_Row_append_29 ?_
      refine lv_iload hx hb d_Row_append_32 (lv_at hl 0 rfl) ?_
      refine lv_iload_n hx hb d_Row_append_34 rfl (lv_at hl 2 rfl) ?_
      refine sm_iast (j := n) hx hb hK hP hD hS 1 0 rfl rfl (vp_in_nI (by first | omega | assumption) (by first | decide | omega)) (nI_clamp (by first | omega | (have := sm_lt31; omega))) d_Row_append_35 (fun H locs hP hD hS => ?_)
      have hP : va_P (dC, dI) smC [(r, .inr (0, [.ref rk, .ref ra, .ref rb, .ref rc, .int (nI n)])), (rk, .inl (cI, 60, .inl (upd fk n k))), (ra, .inl (cI, 60, .inl fa)), (rb, .inl (cI, 60, .inl fb)), (rc, .inl (cI, 60, .inl fc))] H := hP
      have hD : va_D A [(r, .inr (0, [.ref rk, .ref ra, .ref rb, .ref rc, .int (nI n)])), (rk, .inl (cI, 60, .inl (upd fk n k))), (ra, .inl (cI, 60, .inl fa)), (rb, .inl (cI, 60, .inl fb)), (rc, .inl (cI, 60, .inl fc))] := hD
      refine lv_aload_n hx hb d_Row_append_36 rfl (lv_at hl 1 rfl) ?_
      refine va_get (D := (dC, dI)) (ci := 0) (v := .ref ra) (C := R_Row) (T := T_Row) (N := 5) hx hb ht i_Row hown hK hP 0 rfl rfl 1 (by decide) (ht _ mw_30) (fun _ h9 => h9) rfl d_Row_append_37 ?_
      refine lv_iload hx hb d_Row_append_40 (lv_at hl 0 rfl) ?_
      refine lv_iload_n hx hb d_Row_append_42 rfl (lv_at hl 3 rfl) ?_
      refine sm_iast (j := n) hx hb hK hP hD hS 2 0 rfl rfl (vp_in_nI (by first | omega | assumption) (by first | decide | omega)) (nI_clamp (by first | omega | (have := sm_lt31; omega))) d_Row_append_43 (fun H locs hP hD hS => ?_)
      have hP : va_P (dC, dI) smC [(r, .inr (0, [.ref rk, .ref ra, .ref rb, .ref rc, .int (nI n)])), (rk, .inl (cI, 60, .inl (upd fk n k))), (ra, .inl (cI, 60, .inl (upd fa n va))), (rb, .inl (cI, 60, .inl fb)), (rc, .inl (cI, 60, .inl fc))] H := hP
      have hD : va_D A [(r, .inr (0, [.ref rk, .ref ra, .ref rb, .ref rc, .int (nI n)])), (rk, .inl (cI, 60, .inl (upd fk n k))), (ra, .inl (cI, 60, .inl (upd fa n va))), (rb, .inl (cI, 60, .inl fb)), (rc, .inl (cI, 60, .inl fc))] := hD
      refine lv_aload_n hx hb d_Row_append_44 rfl (lv_at hl 1 rfl) ?_
      refine va_get (D := (dC, dI)) (ci := 0) (v := .ref rb) (C := R_Row) (T := T_Row) (N := 5) hx hb ht i_Row hown hK hP 0 rfl rfl 2 (by decide) (ht _ mw_31) (fun _ h9 => h9) rfl d_Row_append_45 ?_
      refine lv_iload hx hb d_Row_append_48 (lv_at hl 0 rfl) ?_
      refine lv_iload_n hx hb d_Row_append_50 rfl (lv_at hl 4 rfl) ?_
      refine sm_iast (j := n) hx hb hK hP hD hS 3 0 rfl rfl (vp_in_nI (by first | omega | assumption) (by first | decide | omega)) (nI_clamp (by first | omega | (have := sm_lt31; omega))) d_Row_append_51 (fun H locs hP hD hS => ?_)
      have hP : va_P (dC, dI) smC [(r, .inr (0, [.ref rk, .ref ra, .ref rb, .ref rc, .int (nI n)])), (rk, .inl (cI, 60, .inl (upd fk n k))), (ra, .inl (cI, 60, .inl (upd fa n va))), (rb, .inl (cI, 60, .inl (upd fb n vb))), (rc, .inl (cI, 60, .inl fc))] H := hP
      have hD : va_D A [(r, .inr (0, [.ref rk, .ref ra, .ref rb, .ref rc, .int (nI n)])), (rk, .inl (cI, 60, .inl (upd fk n k))), (ra, .inl (cI, 60, .inl (upd fa n va))), (rb, .inl (cI, 60, .inl (upd fb n vb))), (rc, .inl (cI, 60, .inl fc))] := hD
      refine lv_aload_n hx hb d_Row_append_52 rfl (lv_at hl 1 rfl) ?_
      refine va_get (D := (dC, dI)) (ci := 0) (v := .ref rc) (C := R_Row) (T := T_Row) (N := 5) hx hb ht i_Row hown hK hP 0 rfl rfl 3 (by decide) (ht _ mw_32) (fun _ h9 => h9) rfl d_Row_append_53 ?_
      refine lv_iload hx hb d_Row_append_56 (lv_at hl 0 rfl) ?_
      refine lv_iload hx hb d_Row_append_58 (lv_at hl 5 rfl) ?_
      refine sm_iast (j := n) hx hb hK hP hD hS 4 0 rfl rfl (vp_in_nI (by first | omega | assumption) (by first | decide | omega)) (nI_clamp (by first | omega | (have := sm_lt31; omega))) d_Row_append_60 (fun H locs hP hD hS => ?_)
      have hP : va_P (dC, dI) smC [(r, .inr (0, [.ref rk, .ref ra, .ref rb, .ref rc, .int (nI n)])), (rk, .inl (cI, 60, .inl (upd fk n k))), (ra, .inl (cI, 60, .inl (upd fa n va))), (rb, .inl (cI, 60, .inl (upd fb n vb))), (rc, .inl (cI, 60, .inl (upd fc n vc)))] H := hP
      have hD : va_D A [(r, .inr (0, [.ref rk, .ref ra, .ref rb, .ref rc, .int (nI n)])), (rk, .inl (cI, 60, .inl (upd fk n k))), (ra, .inl (cI, 60, .inl (upd fa n va))), (rb, .inl (cI, 60, .inl (upd fb n vb))), (rc, .inl (cI, 60, .inl (upd fc n vc)))] := hD
      refine lv_aload_n hx hb d_Row_append_61 rfl (lv_at hl 1 rfl) ?_
      refine lv_dup hx hb d_Row_append_62 rfl ?_
      refine va_get (D := (dC, dI)) (ci := 0) (v := .int (nI n)) (C := R_Row) (T := T_Row) (N := 5) hx hb ht i_Row hown hK hP 0 rfl rfl 4 (by decide) (ht _ mw_33) (fun _ h9 => h9) rfl d_Row_append_63 ?_
      refine lv_iconst (v := 1) hx hb d_Row_append_66 (by decide) ?_
      refine lv_iadd hx hb d_Row_append_67 ?_
      refine sm_re (nI_add n 1) ?_
      refine va_put (D := (dC, dI)) (ci := 0) (v := .int (nI (n + 1))) (ty := .int) (C := R_Row) (T := T_Row) (N := 5) hx hb ht i_Row t_Row t_Row_ok n_Row hown hK hP hD hS 0 rfl rfl 4 (by decide) (ht _ mw_33) (fun _ h9 => h9) rfl (by decide +kernel) rfl rfl (Nat.le_of_ble_eq_true rfl) d_Row_append_68 (fun H locs hP hD hS => ?_)
      have hP : va_P (dC, dI) smC [(r, .inr (0, [.ref rk, .ref ra, .ref rb, .ref rc, .int (nI (n + 1))])), (rk, .inl (cI, 60, .inl (upd fk n k))), (ra, .inl (cI, 60, .inl (upd fa n va))), (rb, .inl (cI, 60, .inl (upd fb n vb))), (rc, .inl (cI, 60, .inl (upd fc n vc)))] H := hP
      have hD : va_D A [(r, .inr (0, [.ref rk, .ref ra, .ref rb, .ref rc, .int (nI (n + 1))])), (rk, .inl (cI, 60, .inl (upd fk n k))), (ra, .inl (cI, 60, .inl (upd fa n va))), (rb, .inl (cI, 60, .inl (upd fb n vb))), (rc, .inl (cI, 60, .inl (upd fc n vc)))] := hD
      refine lv_iload hx hb d_Row_append_71 (lv_at hl 0 rfl) ?_
      refine sm_ri (v := nI n) (ws := [(r, .inr (0, [.ref rk, .ref ra, .ref rb, .ref rc, .int (nI (n + 1))])), (rk, .inl (cI, 60, .inl (upd fk n k))), (ra, .inl (cI, 60, .inl (upd fa n va))), (rb, .inl (cI, 60, .inl (upd fb n vb))), (rc, .inl (cI, 60, .inl (upd fc n vc)))]) hx hb hr hlocks hK (hP.sub [0, 1, 2, 3, 4] rfl) (hD.sub [0, 1, 2, 3, 4] (by decide) rfl) hS ?_ d_Row_append_73
      exact Or.inl ⟨by omega, e_17, rfl, rfl⟩
    · skip
      have e_17 : (okOp k va vb vc) = false := b2i_eq0 c_17
      refine lv_iconst (v := -1) hx hb d_Row_append_20 (by decide) ?_
      refine sm_ri (v := (-1 : Int32)) (ws := [(r, .inr (0, [.ref rk, .ref ra, .ref rb, .ref rc, .int (nI n)])), (rk, .inl (cI, 60, .inl fk)), (ra, .inl (cI, 60, .inl fa)), (rb, .inl (cI, 60, .inl fb)), (rc, .inl (cI, 60, .inl fc))]) hx hb hr hlocks hK (hP.sub [0, 1, 2, 3, 4] rfl) (hD.sub [0, 1, 2, 3, 4] (by decide) rfl) hS ?_ d_Row_append_21
      exact Or.inr ⟨fun z => by rw [e_17] at z; exact absurd z.2 (by decide), rfl, rfl⟩
