abbrev y_Mod_thrown : MethodName := ⟨"ScanMillModel", "thrown", "()I"⟩
theorem d_Mod_thrown_0 : decode prog_7_method_2_code 0 = .ok (.aload_n 0, 1) := by decide +kernel
theorem d_Mod_thrown_1 : decode prog_7_method_2_code 1 = .ok (.getfield 66, 3) := by decide +kernel
theorem mw_606 : Cond.fieldLink "ScanMillModel" 66 "ScanMillModel" "thrown" "I" ∈ wG := wG_t 606 (by decide +kernel) (by decide +kernel)
theorem d_Mod_thrown_4 : decode prog_7_method_2_code 4 = .ok (.ireturn, 1) := by decide +kernel
set_option maxRecDepth 100000 in
set_option maxHeartbeats 4000000 in
theorem c_Mod_thrown {l : Launch} {dC : Nat → ClassId} {dI : Nat → Nat → Nat} {cI cZ : ClassId} {md d1 d2 d3 d4 d5 d6 d7 d8 d9 da db dc dd de df dg dh n wt nr ns sp cl2 np ww : Nat} {th isS sta nx : Int32}  : sm_I l y_Mod_thrown prog_7_method_2_code 1 (some .int) (rmF 0 0) (dC, dI) smC [(cI, .int), (cZ, .boolean)] [.ref md] [(md, .inr (5, [.int th, .int (nI n), .ref d1, .ref d2, .ref d3, .ref d4, .int (nI wt), .int isS, .int (nI nr), .int (nI ns), .ref d5, .ref d6, .ref d7, .ref d8, .ref d9, .ref da, .ref db, .int sta, .int nx, .int (nI sp), .int (nI cl2), .int (nI np), .ref dc, .ref dd, .ref de, .int (nI ww), .ref df, .ref dg, .ref dh]))] (fun q w2 => q = th ∧ w2 = [(md, .inr (5, [.int th, .int (nI n), .ref d1, .ref d2, .ref d3, .ref d4, .int (nI wt), .int isS, .int (nI nr), .int (nI ns), .ref d5, .ref d6, .ref d7, .ref d8, .ref d9, .ref da, .ref db, .int sta, .int nx, .int (nI sp), .int (nI cl2), .int (nI np), .ref dc, .ref dd, .ref de, .int (nI ww), .ref df, .ref dg, .ref dh]))]) := by
  refine sm_I.mk (by decide) (Nat.le_of_ble_eq_true rfl) ?_
  intro p e s m below meth c A H locs ls hx hb hr ht hown hlocks hml hnm hP hK hD hA hS hN hl
  have hl : lv_has ls 1 [(0, .ref md)] := hl
  refine lv_aload_n hx hb d_Mod_thrown_0 rfl (lv_at hl 0 rfl) ?_
  refine va_get (D := (dC, dI)) (ci := 5) (v := .int th) (C := R_Mod) (T := T_Mod) (N := 29) hx hb ht i_Mod hown hK hP 0 rfl rfl 0 (by decide) (ht _ mw_606) (fun _ h9 => h9) rfl d_Mod_thrown_1 ?_
  refine sm_ri (v := th) (ws := [(md, .inr (5, [.int th, .int (nI n), .ref d1, .ref d2, .ref d3, .ref d4, .int (nI wt), .int isS, .int (nI nr), .int (nI ns), .ref d5, .ref d6, .ref d7, .ref d8, .ref d9, .ref da, .ref db, .int sta, .int nx, .int (nI sp), .int (nI cl2), .int (nI np), .ref dc, .ref dd, .ref de, .int (nI ww), .ref df, .ref dg, .ref dh]))]) hx hb hr hlocks hK (hP.sub [0] rfl) (hD.sub [0] (by decide) rfl) hS ?_ d_Mod_thrown_4
  exact ⟨rfl, rfl⟩
abbrev y_Mod_within : MethodName := ⟨"ScanMillModel", "within", "(III)Z"⟩
theorem d_Mod_within_0 : decode prog_7_method_3_code 0 = .ok (.iload_n 0, 1) := by decide +kernel
theorem d_Mod_within_1 : decode prog_7_method_3_code 1 = .ok (.iload_n 1, 1) := by decide +kernel
theorem d_Mod_within_2 : decode prog_7_method_3_code 2 = .ok (.if_icmp .lt 12, 3) := by decide +kernel
theorem d_Mod_within_14 : decode prog_7_method_3_code 14 = .ok (.iconst 0, 1) := by decide +kernel
theorem d_Mod_within_15 : decode prog_7_method_3_code 15 = .ok (.ireturn, 1) := by decide +kernel
theorem d_Mod_within_5 : decode prog_7_method_3_code 5 = .ok (.iload_n 0, 1) := by decide +kernel
theorem d_Mod_within_6 : decode prog_7_method_3_code 6 = .ok (.iload_n 2, 1) := by decide +kernel
theorem d_Mod_within_7 : decode prog_7_method_3_code 7 = .ok (.if_icmp .gt 7, 3) := by decide +kernel
theorem d_Mod_within_10 : decode prog_7_method_3_code 10 = .ok (.iconst 1, 1) := by decide +kernel
theorem d_Mod_within_11 : decode prog_7_method_3_code 11 = .ok (.goto 4, 3) := by decide +kernel
set_option maxRecDepth 100000 in
set_option maxHeartbeats 4000000 in
theorem c_Mod_within {l : Launch} {dC : Nat → ClassId} {dI : Nat → Nat → Nat} {cI cZ : ClassId} {x lo hi : Int32}  : sm_I l y_Mod_within prog_7_method_3_code 3 (some .boolean) (rmF 0 0) (dC, dI) smC [(cI, .int), (cZ, .boolean)] [.int x, .int lo, .int hi] [] (fun q w2 => q = (b2i (wi x lo hi)) ∧ w2 = []) := by
  refine sm_I.mk (by decide) (Nat.le_of_ble_eq_true rfl) ?_
  intro p e s m below meth c A H locs ls hx hb hr ht hown hlocks hml hnm hP hK hD hA hS hN hl
  have hl : lv_has ls 3 [(0, .int x), (1, .int lo), (2, .int hi)] := hl
  refine lv_iload_n hx hb d_Mod_within_0 rfl (lv_at hl 0 rfl) ?_
  refine lv_iload_n hx hb d_Mod_within_1 rfl (lv_at hl 1 rfl) ?_
  refine lv_icmp_lt (tgt := 14) hx hb d_Mod_within_2 (by decide) (fun c_2 => ?_) (fun c_2 => ?_)
  · skip
    refine lv_iconst (v := 0) hx hb d_Mod_within_14 (by decide) ?_
    refine sm_rz (v := (0 : Int32)) (ws := []) hx hb hr hlocks hK (hP.sub [] rfl) (hD.sub [] (by decide) rfl) hS (by decide) ?_ d_Mod_within_15
    exact ⟨by rw [wi_lo c_2]; rfl, rfl⟩
  · skip
    refine lv_iload_n hx hb d_Mod_within_5 rfl (lv_at hl 0 rfl) ?_
    refine lv_iload_n hx hb d_Mod_within_6 rfl (lv_at hl 2 rfl) ?_
    refine lv_icmp_gt (tgt := 14) hx hb d_Mod_within_7 (by decide) (fun c_7 => ?_) (fun c_7 => ?_)
    · skip
      refine lv_iconst (v := 0) hx hb d_Mod_within_14 (by decide) ?_
      refine sm_rz (v := (0 : Int32)) (ws := []) hx hb hr hlocks hK (hP.sub [] rfl) (hD.sub [] (by decide) rfl) hS (by decide) ?_ d_Mod_within_15
      exact ⟨by rw [wi_hi c_7]; rfl, rfl⟩
    · skip
      refine lv_iconst (v := 1) hx hb d_Mod_within_10 (by decide) ?_
      refine lv_goto (tgt := 15) hx hb d_Mod_within_11 (by decide) ?_
      refine sm_rz (v := (1 : Int32)) (ws := []) hx hb hr hlocks hK (hP.sub [] rfl) (hD.sub [] (by decide) rfl) hS (by decide) ?_ d_Mod_within_15
      exact ⟨by rw [wi_1 c_2 c_7]; rfl, rfl⟩
abbrev y_Mod_isValue : MethodName := ⟨"ScanMillModel", "isValue", "(I)Z"⟩
theorem d_Mod_isValue_0 : decode prog_7_method_4_code 0 = .ok (.iload_n 0, 1) := by decide +kernel
theorem d_Mod_isValue_1 : decode prog_7_method_4_code 1 = .ok (.iconst 0, 1) := by decide +kernel
theorem d_Mod_isValue_2 : decode prog_7_method_4_code 2 = .ok (.bipush 23, 2) := by decide +kernel
theorem d_Mod_isValue_4 : decode prog_7_method_4_code 4 = .ok (.invokestatic 69, 3) := by decide +kernel
theorem mw_704 : Cond.code ⟨"ScanMillModel", "within", "(III)Z"⟩ prog_7_method_3_code 3 (Option.some FieldType.boolean) ∈ wG := wG_t 704 (by decide +kernel) (by decide +kernel)
theorem mw_6 : Cond.initialized "ScanMillModel" ∈ wG := wG_t 6 (by decide +kernel) (by decide +kernel)
theorem mw_703 : Cond.static ⟨"ScanMillModel", "within", "(III)Z"⟩ ∈ wG := wG_t 703 (by decide +kernel) (by decide +kernel)
theorem mw_702 : Cond.methodLink "ScanMillModel" 69 ⟨"ScanMillModel", "within", "(III)Z"⟩ ∈ wG := wG_t 702 (by decide +kernel) (by decide +kernel)
theorem d_Mod_isValue_7 : decode prog_7_method_4_code 7 = .ok (.ireturn, 1) := by decide +kernel
set_option maxRecDepth 100000 in
set_option maxHeartbeats 4000000 in
theorem c_Mod_isValue {l : Launch} {dC : Nat → ClassId} {dI : Nat → Nat → Nat} {cI cZ : ClassId} {v : Int32}  : sm_I l y_Mod_isValue prog_7_method_4_code 1 (some .boolean) (rmF 1 22) (dC, dI) smC [(cI, .int), (cZ, .boolean)] [.int v] [] (fun q w2 => q = (b2i (inB v 24)) ∧ w2 = []) := by
  refine sm_I.mk (by decide) (Nat.le_of_ble_eq_true rfl) ?_
  intro p e s m below meth c A H locs ls hx hb hr ht hown hlocks hml hnm hP hK hD hA hS hN hl
  have hl : lv_has ls 1 [(0, .int v)] := hl
  refine lv_iload_n hx hb d_Mod_isValue_0 rfl (lv_at hl 0 rfl) ?_
  refine lv_iconst (v := 0) hx hb d_Mod_isValue_1 (by decide) ?_
  refine lv_bipush (v := 23) hx hb d_Mod_isValue_2 (by decide) ?_
  refine sm_goi (wc := []) (wr := []) (va_runS (As := [.int v, .int ((0 : Int32)), .int ((23 : Int32))]) (rest := []) ⟨hx, hb, hml, hown, ht⟩ ((c_Mod_within (l := l) (dC := dC) (dI := dI) (cI := cI) (cZ := cZ) (x := v) (lo := (0 : Int32)) (hi := (23 : Int32)) ).at H.size) (sm_cS 3 ht mw_704 mw_6 mw_702 mw_703 rfl rfl (by decide +kernel) ⟨Nat.le_of_ble_eq_true rfl, Nat.le_of_ble_eq_true rfl⟩) (sm_preS hN hK hP hD [] rfl rfl (by decide)) rfl rfl hl.1 rfl (lv_room (Nat.le_of_ble_eq_true rfl)) d_Mod_isValue_4 ⟨Nat.zero_le _, Nat.zero_le _⟩) hP hD hS hA [] [] rfl rfl (by decide) (by decide) (fun r_4 w_4 H locs q_4 hP hD hS => ?_)
  obtain ⟨rfl, rfl⟩ := q_4
  have hP : va_P (dC, dI) smC [] H := hP
  have hD : va_D A [] := hD
  refine sm_rz (v := b2i (wi v ((0 : Int32)) ((23 : Int32)))) (ws := []) hx hb hr hlocks hK (hP.sub [] rfl) (hD.sub [] (by decide) rfl) hS (b2i_01 _) ?_ d_Mod_isValue_7
  exact ⟨by rw [wi_23], rfl⟩
abbrev y_Mod_forget : MethodName := ⟨"ScanMillModel", "forget", "()V"⟩
theorem d_Mod_forget_0 : decode prog_7_method_5_code 0 = .ok (.aload_n 0, 1) := by decide +kernel
theorem d_Mod_forget_1 : decode prog_7_method_5_code 1 = .ok (.iconst 0, 1) := by decide +kernel
theorem d_Mod_forget_2 : decode prog_7_method_5_code 2 = .ok (.putfield 73, 3) := by decide +kernel
theorem mw_613 : Cond.fieldLink "ScanMillModel" 73 "ScanMillModel" "isScanned" "Z" ∈ wG := wG_t 613 (by decide +kernel) (by decide +kernel)
theorem d_Mod_forget_5 : decode prog_7_method_5_code 5 = .ok (.aload_n 0, 1) := by decide +kernel
theorem d_Mod_forget_6 : decode prog_7_method_5_code 6 = .ok (.iconst 0, 1) := by decide +kernel
theorem d_Mod_forget_7 : decode prog_7_method_5_code 7 = .ok (.putfield 77, 3) := by decide +kernel
theorem mw_623 : Cond.fieldLink "ScanMillModel" 77 "ScanMillModel" "state" "I" ∈ wG := wG_t 623 (by decide +kernel) (by decide +kernel)
theorem d_Mod_forget_10 : decode prog_7_method_5_code 10 = .ok (.return_, 1) := by decide +kernel
set_option maxRecDepth 100000 in
set_option maxHeartbeats 4000000 in
theorem c_Mod_forget {l : Launch} {dC : Nat → ClassId} {dI : Nat → Nat → Nat} {cI cZ : ClassId} {md d1 d2 d3 d4 d5 d6 d7 d8 d9 da db dc dd de df dg dh n wt nr ns sp cl2 np ww : Nat} {th isS sta nx : Int32}  : sm_V l y_Mod_forget prog_7_method_5_code 1 none (rmF 0 0) (dC, dI) smC [(cI, .int), (cZ, .boolean)] [.ref md] [(md, .inr (5, [.int th, .int (nI n), .ref d1, .ref d2, .ref d3, .ref d4, .int (nI wt), .int isS, .int (nI nr), .int (nI ns), .ref d5, .ref d6, .ref d7, .ref d8, .ref d9, .ref da, .ref db, .int sta, .int nx, .int (nI sp), .int (nI cl2), .int (nI np), .ref dc, .ref dd, .ref de, .int (nI ww), .ref df, .ref dg, .ref dh]))] (fun w2 => w2 = [(md, .inr (5, [.int th, .int (nI n), .ref d1, .ref d2, .ref d3, .ref d4, .int (nI wt), .int ((0 : Int32)), .int (nI nr), .int (nI ns), .ref d5, .ref d6, .ref d7, .ref d8, .ref d9, .ref da, .ref db, .int ((0 : Int32)), .int nx, .int (nI sp), .int (nI cl2), .int (nI np), .ref dc, .ref dd, .ref de, .int (nI ww), .ref df, .ref dg, .ref dh]))]) := by
  refine sm_V.mk (by decide) (Nat.le_of_ble_eq_true rfl) ?_
  intro p e s m below meth c A H locs ls hx hb hr ht hown hlocks hml hnm hP hK hD hA hS hN hl
  have hl : lv_has ls 1 [(0, .ref md)] := hl
  refine lv_aload_n hx hb d_Mod_forget_0 rfl (lv_at hl 0 rfl) ?_
  refine lv_iconst (v := 0) hx hb d_Mod_forget_1 (by decide) ?_
  refine va_put (D := (dC, dI)) (ci := 5) (v := .int ((0 : Int32))) (ty := .boolean) (C := R_Mod) (T := T_Mod) (N := 29) hx hb ht i_Mod t_Mod t_Mod_ok n_Mod hown hK hP hD hS 0 rfl rfl 7 (by decide) (ht _ mw_613) (fun _ h9 => h9) rfl (by decide +kernel) rfl rfl (Nat.le_of_ble_eq_true rfl) d_Mod_forget_2 (fun H locs hP hD hS => ?_)
  have hP : va_P (dC, dI) smC [(md, .inr (5, [.int th, .int (nI n), .ref d1, .ref d2, .ref d3, .ref d4, .int (nI wt), .int ((0 : Int32)), .int (nI nr), .int (nI ns), .ref d5, .ref d6, .ref d7, .ref d8, .ref d9, .ref da, .ref db, .int sta, .int nx, .int (nI sp), .int (nI cl2), .int (nI np), .ref dc, .ref dd, .ref de, .int (nI ww), .ref df, .ref dg, .ref dh]))] H := hP
  have hD : va_D A [(md, .inr (5, [.int th, .int (nI n), .ref d1, .ref d2, .ref d3, .ref d4, .int (nI wt), .int ((0 : Int32)), .int (nI nr), .int (nI ns), .ref d5, .ref d6, .ref d7, .ref d8, .ref d9, .ref da, .ref db, .int sta, .int nx, .int (nI sp), .int (nI cl2), .int (nI np), .ref dc, .ref dd, .ref de, .int (nI ww), .ref df, .ref dg, .ref dh]))] := hD
  refine lv_aload_n hx hb d_Mod_forget_5 rfl (lv_at hl 0 rfl) ?_
  refine lv_iconst (v := 0) hx hb d_Mod_forget_6 (by decide) ?_
  refine va_put (D := (dC, dI)) (ci := 5) (v := .int ((0 : Int32))) (ty := .int) (C := R_Mod) (T := T_Mod) (N := 29) hx hb ht i_Mod t_Mod t_Mod_ok n_Mod hown hK hP hD hS 0 rfl rfl 17 (by decide) (ht _ mw_623) (fun _ h9 => h9) rfl (by decide +kernel) rfl rfl (Nat.le_of_ble_eq_true rfl) d_Mod_forget_7 (fun H locs hP hD hS => ?_)
  have hP : va_P (dC, dI) smC [(md, .inr (5, [.int th, .int (nI n), .ref d1, .ref d2, .ref d3, .ref d4, .int (nI wt), .int ((0 : Int32)), .int (nI nr), .int (nI ns), .ref d5, .ref d6, .ref d7, .ref d8, .ref d9, .ref da, .ref db, .int ((0 : Int32)), .int nx, .int (nI sp), .int (nI cl2), .int (nI np), .ref dc, .ref dd, .ref de, .int (nI ww), .ref df, .ref dg, .ref dh]))] H := hP
  have hD : va_D A [(md, .inr (5, [.int th, .int (nI n), .ref d1, .ref d2, .ref d3, .ref d4, .int (nI wt), .int ((0 : Int32)), .int (nI nr), .int (nI ns), .ref d5, .ref d6, .ref d7, .ref d8, .ref d9, .ref da, .ref db, .int ((0 : Int32)), .int nx, .int (nI sp), .int (nI cl2), .int (nI np), .ref dc, .ref dd, .ref de, .int (nI ww), .ref df, .ref dg, .ref dh]))] := hD
  refine sm_rv (ws := [(md, .inr (5, [.int th, .int (nI n), .ref d1, .ref d2, .ref d3, .ref d4, .int (nI wt), .int ((0 : Int32)), .int (nI nr), .int (nI ns), .ref d5, .ref d6, .ref d7, .ref d8, .ref d9, .ref da, .ref db, .int ((0 : Int32)), .int nx, .int (nI sp), .int (nI cl2), .int (nI np), .ref dc, .ref dd, .ref de, .int (nI ww), .ref df, .ref dg, .ref dh]))]) hx hb hr hlocks hK (hP.sub [0] rfl) (hD.sub [0] (by decide) rfl) hS ?_ d_Mod_forget_10
  rfl
abbrev y_Mod_op : MethodName := ⟨"ScanMillModel", "op", "(IIII)I"⟩
theorem d_Mod_op_0 : decode prog_7_method_6_code 0 = .ok (.aload_n 0, 1) := by decide +kernel
theorem d_Mod_op_1 : decode prog_7_method_6_code 1 = .ok (.iconst 0, 1) := by decide +kernel
theorem d_Mod_op_2 : decode prog_7_method_6_code 2 = .ok (.putfield 66, 3) := by decide +kernel
theorem d_Mod_op_5 : decode prog_7_method_6_code 5 = .ok (.aload_n 0, 1) := by decide +kernel
theorem d_Mod_op_6 : decode prog_7_method_6_code 6 = .ok (.getfield 80, 3) := by decide +kernel
theorem mw_607 : Cond.fieldLink "ScanMillModel" 80 "ScanMillModel" "ops" "I" ∈ wG := wG_t 607 (by decide +kernel) (by decide +kernel)
theorem d_Mod_op_9 : decode prog_7_method_6_code 9 = .ok (.bipush 60, 2) := by decide +kernel
theorem d_Mod_op_11 : decode prog_7_method_6_code 11 = .ok (.if_icmp .eq 13, 3) := by decide +kernel
theorem d_Mod_op_24 : decode prog_7_method_6_code 24 = .ok (.iconst (-1), 1) := by decide +kernel
theorem d_Mod_op_25 : decode prog_7_method_6_code 25 = .ok (.ireturn, 1) := by decide +kernel
theorem d_Mod_op_14 : decode prog_7_method_6_code 14 = .ok (.iload_n 1, 1) := by decide +kernel
theorem d_Mod_op_15 : decode prog_7_method_6_code 15 = .ok (.iconst 0, 1) := by decide +kernel
theorem d_Mod_op_16 : decode prog_7_method_6_code 16 = .ok (.bipush 11, 2) := by decide +kernel
theorem d_Mod_op_18 : decode prog_7_method_6_code 18 = .ok (.invokestatic 69, 3) := by decide +kernel
theorem d_Mod_op_21 : decode prog_7_method_6_code 21 = .ok (.ifCond .ne 5, 3) := by decide +kernel
theorem d_Mod_op_195 : decode prog_7_method_6_code 195 = .ok (.iload 5, 2) := by decide +kernel
theorem d_Mod_op_197 : decode prog_7_method_6_code 197 = .ok (.ifCond .ne 5, 3) := by decide +kernel
theorem d_Mod_op_202 : decode prog_7_method_6_code 202 = .ok (.aload_n 0, 1) := by decide +kernel
theorem d_Mod_op_203 : decode prog_7_method_6_code 203 = .ok (.getfield 7, 3) := by decide +kernel
theorem mw_608 : Cond.fieldLink "ScanMillModel" 7 "ScanMillModel" "kind" "[I" ∈ wG := wG_t 608 (by decide +kernel) (by decide +kernel)
theorem d_Mod_op_206 : decode prog_7_method_6_code 206 = .ok (.aload_n 0, 1) := by decide +kernel
theorem d_Mod_op_207 : decode prog_7_method_6_code 207 = .ok (.getfield 80, 3) := by decide +kernel
theorem d_Mod_op_210 : decode prog_7_method_6_code 210 = .ok (.iload_n 1, 1) := by decide +kernel
theorem d_Mod_op_211 : decode prog_7_method_6_code 211 = .ok (.iastore, 1) := by decide +kernel
theorem d_Mod_op_212 : decode prog_7_method_6_code 212 = .ok (.aload_n 0, 1) := by decide +kernel
theorem d_Mod_op_213 : decode prog_7_method_6_code 213 = .ok (.getfield 13, 3) := by decide +kernel
theorem mw_609 : Cond.fieldLink "ScanMillModel" 13 "ScanMillModel" "a" "[I" ∈ wG := wG_t 609 (by decide +kernel) (by decide +kernel)
theorem d_Mod_op_216 : decode prog_7_method_6_code 216 = .ok (.aload_n 0, 1) := by decide +kernel
theorem d_Mod_op_217 : decode prog_7_method_6_code 217 = .ok (.getfield 80, 3) := by decide +kernel
theorem d_Mod_op_220 : decode prog_7_method_6_code 220 = .ok (.iload_n 2, 1) := by decide +kernel
theorem d_Mod_op_221 : decode prog_7_method_6_code 221 = .ok (.iastore, 1) := by decide +kernel
theorem d_Mod_op_222 : decode prog_7_method_6_code 222 = .ok (.aload_n 0, 1) := by decide +kernel
theorem d_Mod_op_223 : decode prog_7_method_6_code 223 = .ok (.getfield 16, 3) := by decide +kernel
theorem mw_610 : Cond.fieldLink "ScanMillModel" 16 "ScanMillModel" "b" "[I" ∈ wG := wG_t 610 (by decide +kernel) (by decide +kernel)
theorem d_Mod_op_226 : decode prog_7_method_6_code 226 = .ok (.aload_n 0, 1) := by decide +kernel
theorem d_Mod_op_227 : decode prog_7_method_6_code 227 = .ok (.getfield 80, 3) := by decide +kernel
theorem d_Mod_op_230 : decode prog_7_method_6_code 230 = .ok (.iload_n 3, 1) := by decide +kernel
theorem d_Mod_op_231 : decode prog_7_method_6_code 231 = .ok (.iastore, 1) := by decide +kernel
theorem d_Mod_op_232 : decode prog_7_method_6_code 232 = .ok (.aload_n 0, 1) := by decide +kernel
theorem d_Mod_op_233 : decode prog_7_method_6_code 233 = .ok (.getfield 19, 3) := by decide +kernel
theorem mw_611 : Cond.fieldLink "ScanMillModel" 19 "ScanMillModel" "c" "[I" ∈ wG := wG_t 611 (by decide +kernel) (by decide +kernel)
theorem d_Mod_op_236 : decode prog_7_method_6_code 236 = .ok (.aload_n 0, 1) := by decide +kernel
theorem d_Mod_op_237 : decode prog_7_method_6_code 237 = .ok (.getfield 80, 3) := by decide +kernel
theorem d_Mod_op_240 : decode prog_7_method_6_code 240 = .ok (.iload 4, 2) := by decide +kernel
theorem d_Mod_op_242 : decode prog_7_method_6_code 242 = .ok (.iastore, 1) := by decide +kernel
theorem d_Mod_op_243 : decode prog_7_method_6_code 243 = .ok (.aload_n 0, 1) := by decide +kernel
theorem d_Mod_op_244 : decode prog_7_method_6_code 244 = .ok (.dup, 1) := by decide +kernel
theorem d_Mod_op_245 : decode prog_7_method_6_code 245 = .ok (.getfield 80, 3) := by decide +kernel
theorem d_Mod_op_248 : decode prog_7_method_6_code 248 = .ok (.iconst 1, 1) := by decide +kernel
theorem d_Mod_op_249 : decode prog_7_method_6_code 249 = .ok (.iadd, 1) := by decide +kernel
theorem d_Mod_op_250 : decode prog_7_method_6_code 250 = .ok (.putfield 80, 3) := by decide +kernel
theorem d_Mod_op_253 : decode prog_7_method_6_code 253 = .ok (.aload_n 0, 1) := by decide +kernel
theorem d_Mod_op_254 : decode prog_7_method_6_code 254 = .ok (.invokevirtual 87, 3) := by decide +kernel
theorem mw_711 : Cond.code ⟨"ScanMillModel", "forget", "()V"⟩ prog_7_method_5_code 1 (Option.none : Option FieldType) ∈ wG := wG_t 711 (by decide +kernel) (by decide +kernel)
theorem mw_708 : Cond.methodLink "ScanMillModel" 87 ⟨"ScanMillModel", "forget", "()V"⟩ ∈ wG := wG_t 708 (by decide +kernel) (by decide +kernel)
theorem mw_710 : Cond.instanceMethod ⟨"ScanMillModel", "forget", "()V"⟩ ∈ wG := wG_t 710 (by decide +kernel) (by decide +kernel)
theorem mp_21 : Cond.selects "ScanMillModel" ⟨"ScanMillModel", "forget", "()V"⟩ ⟨"ScanMillModel", "forget", "()V"⟩ ∈ wG := wG_p 21 (by decide +kernel) (by decide +kernel)
theorem d_Mod_op_257 : decode prog_7_method_6_code 257 = .ok (.aload_n 0, 1) := by decide +kernel
theorem d_Mod_op_258 : decode prog_7_method_6_code 258 = .ok (.getfield 80, 3) := by decide +kernel
theorem d_Mod_op_261 : decode prog_7_method_6_code 261 = .ok (.iconst 1, 1) := by decide +kernel
theorem d_Mod_op_262 : decode prog_7_method_6_code 262 = .ok (.isub, 1) := by decide +kernel
theorem d_Mod_op_263 : decode prog_7_method_6_code 263 = .ok (.ireturn, 1) := by decide +kernel
theorem d_Mod_op_200 : decode prog_7_method_6_code 200 = .ok (.iconst (-1), 1) := by decide +kernel
theorem d_Mod_op_201 : decode prog_7_method_6_code 201 = .ok (.ireturn, 1) := by decide +kernel
theorem d_Mod_op_26 : decode prog_7_method_6_code 26 = .ok (.iload_n 1, 1) := by decide +kernel
theorem d_Mod_op_27 : decode prog_7_method_6_code 27 = .ok (.tableswitch 139 0 11 #[61, 139, 139, 139, 139, 139, 70, 94, 106, 61, 61, 133], 61) := by decide +kernel
theorem d_Mod_op_88 : decode prog_7_method_6_code 88 = .ok (.iload_n 2, 1) := by decide +kernel
theorem d_Mod_op_89 : decode prog_7_method_6_code 89 = .ok (.invokestatic 83, 3) := by decide +kernel
theorem mw_707 : Cond.code ⟨"ScanMillModel", "isValue", "(I)Z"⟩ prog_7_method_4_code 1 (Option.some FieldType.boolean) ∈ wG := wG_t 707 (by decide +kernel) (by decide +kernel)
theorem mw_706 : Cond.static ⟨"ScanMillModel", "isValue", "(I)Z"⟩ ∈ wG := wG_t 706 (by decide +kernel) (by decide +kernel)
theorem mw_705 : Cond.methodLink "ScanMillModel" 83 ⟨"ScanMillModel", "isValue", "(I)Z"⟩ ∈ wG := wG_t 705 (by decide +kernel) (by decide +kernel)
theorem d_Mod_op_92 : decode prog_7_method_6_code 92 = .ok (.istore 5, 2) := by decide +kernel
theorem d_Mod_op_94 : decode prog_7_method_6_code 94 = .ok (.goto 101, 3) := by decide +kernel
theorem d_Mod_op_97 : decode prog_7_method_6_code 97 = .ok (.iload_n 2, 1) := by decide +kernel
theorem d_Mod_op_98 : decode prog_7_method_6_code 98 = .ok (.invokestatic 83, 3) := by decide +kernel
theorem d_Mod_op_101 : decode prog_7_method_6_code 101 = .ok (.ifCond .eq 14, 3) := by decide +kernel
theorem d_Mod_op_115 : decode prog_7_method_6_code 115 = .ok (.iconst 0, 1) := by decide +kernel
theorem d_Mod_op_116 : decode prog_7_method_6_code 116 = .ok (.istore 5, 2) := by decide +kernel
theorem d_Mod_op_118 : decode prog_7_method_6_code 118 = .ok (.goto 77, 3) := by decide +kernel
theorem d_Mod_op_104 : decode prog_7_method_6_code 104 = .ok (.iload_n 3, 1) := by decide +kernel
theorem d_Mod_op_105 : decode prog_7_method_6_code 105 = .ok (.invokestatic 83, 3) := by decide +kernel
theorem d_Mod_op_108 : decode prog_7_method_6_code 108 = .ok (.ifCond .eq 7, 3) := by decide +kernel
theorem d_Mod_op_111 : decode prog_7_method_6_code 111 = .ok (.iconst 1, 1) := by decide +kernel
theorem d_Mod_op_112 : decode prog_7_method_6_code 112 = .ok (.goto 4, 3) := by decide +kernel
theorem d_Mod_op_121 : decode prog_7_method_6_code 121 = .ok (.iload_n 2, 1) := by decide +kernel
theorem d_Mod_op_122 : decode prog_7_method_6_code 122 = .ok (.iconst 0, 1) := by decide +kernel
theorem d_Mod_op_123 : decode prog_7_method_6_code 123 = .ok (.bipush 60, 2) := by decide +kernel
theorem d_Mod_op_125 : decode prog_7_method_6_code 125 = .ok (.invokestatic 69, 3) := by decide +kernel
theorem d_Mod_op_128 : decode prog_7_method_6_code 128 = .ok (.istore 5, 2) := by decide +kernel
theorem d_Mod_op_130 : decode prog_7_method_6_code 130 = .ok (.goto 65, 3) := by decide +kernel
theorem d_Mod_op_133 : decode prog_7_method_6_code 133 = .ok (.iload_n 2, 1) := by decide +kernel
theorem d_Mod_op_134 : decode prog_7_method_6_code 134 = .ok (.invokestatic 83, 3) := by decide +kernel
theorem d_Mod_op_137 : decode prog_7_method_6_code 137 = .ok (.ifCond .eq 17, 3) := by decide +kernel
theorem d_Mod_op_154 : decode prog_7_method_6_code 154 = .ok (.iconst 0, 1) := by decide +kernel
theorem d_Mod_op_155 : decode prog_7_method_6_code 155 = .ok (.istore 5, 2) := by decide +kernel
theorem d_Mod_op_157 : decode prog_7_method_6_code 157 = .ok (.goto 38, 3) := by decide +kernel
theorem d_Mod_op_140 : decode prog_7_method_6_code 140 = .ok (.iload_n 3, 1) := by decide +kernel
theorem d_Mod_op_141 : decode prog_7_method_6_code 141 = .ok (.iconst 0, 1) := by decide +kernel
theorem d_Mod_op_142 : decode prog_7_method_6_code 142 = .ok (.bipush 60, 2) := by decide +kernel
theorem d_Mod_op_144 : decode prog_7_method_6_code 144 = .ok (.invokestatic 69, 3) := by decide +kernel
theorem d_Mod_op_147 : decode prog_7_method_6_code 147 = .ok (.ifCond .eq 7, 3) := by decide +kernel
theorem d_Mod_op_150 : decode prog_7_method_6_code 150 = .ok (.iconst 1, 1) := by decide +kernel
theorem d_Mod_op_151 : decode prog_7_method_6_code 151 = .ok (.goto 4, 3) := by decide +kernel
theorem d_Mod_op_160 : decode prog_7_method_6_code 160 = .ok (.iconst 1, 1) := by decide +kernel
theorem d_Mod_op_161 : decode prog_7_method_6_code 161 = .ok (.istore 5, 2) := by decide +kernel
theorem d_Mod_op_163 : decode prog_7_method_6_code 163 = .ok (.goto 32, 3) := by decide +kernel
theorem d_Mod_op_166 : decode prog_7_method_6_code 166 = .ok (.iload_n 2, 1) := by decide +kernel
theorem d_Mod_op_167 : decode prog_7_method_6_code 167 = .ok (.invokestatic 83, 3) := by decide +kernel
theorem d_Mod_op_170 : decode prog_7_method_6_code 170 = .ok (.ifCond .eq 22, 3) := by decide +kernel
theorem d_Mod_op_192 : decode prog_7_method_6_code 192 = .ok (.iconst 0, 1) := by decide +kernel
theorem d_Mod_op_193 : decode prog_7_method_6_code 193 = .ok (.istore 5, 2) := by decide +kernel
theorem d_Mod_op_173 : decode prog_7_method_6_code 173 = .ok (.iload_n 3, 1) := by decide +kernel
theorem d_Mod_op_174 : decode prog_7_method_6_code 174 = .ok (.invokestatic 83, 3) := by decide +kernel
theorem d_Mod_op_177 : decode prog_7_method_6_code 177 = .ok (.ifCond .eq 15, 3) := by decide +kernel
theorem d_Mod_op_180 : decode prog_7_method_6_code 180 = .ok (.iload 4, 2) := by decide +kernel
theorem d_Mod_op_182 : decode prog_7_method_6_code 182 = .ok (.invokestatic 83, 3) := by decide +kernel
theorem d_Mod_op_185 : decode prog_7_method_6_code 185 = .ok (.ifCond .eq 7, 3) := by decide +kernel
theorem d_Mod_op_188 : decode prog_7_method_6_code 188 = .ok (.iconst 1, 1) := by decide +kernel
theorem d_Mod_op_189 : decode prog_7_method_6_code 189 = .ok (.goto 4, 3) := by decide +kernel
set_option maxRecDepth 100000 in
set_option maxHeartbeats 4000000 in
theorem c_Mod_op {l : Launch} {dC : Nat → ClassId} {dI : Nat → Nat → Nat} {cI cZ : ClassId} {md d1 d2 d3 d4 d5 d6 d7 d8 d9 da db dc dd de df dg dh n wt nr ns sp cl2 np ww : Nat} {th isS sta nx : Int32} {fk fa fb fc : Nat → Int32} {k va vb vc : Int32} (hn : n ≤ 60) : sm_I l y_Mod_op prog_7_method_6_code 6 (some .int) (rmF 2 42) (dC, dI) smC [(cI, .int), (cZ, .boolean)] [.ref md, .int k, .int va, .int vb, .int vc] [(md, .inr (5, [.int th, .int (nI n), .ref d1, .ref d2, .ref d3, .ref d4, .int (nI wt), .int isS, .int (nI nr), .int (nI ns), .ref d5, .ref d6, .ref d7, .ref d8, .ref d9, .ref da, .ref db, .int sta, .int nx, .int (nI sp), .int (nI cl2), .int (nI np), .ref dc, .ref dd, .ref de, .int (nI ww), .ref df, .ref dg, .ref dh])), (d1, .inl (cI, 60, .inl fk)), (d2, .inl (cI, 60, .inl fa)), (d3, .inl (cI, 60, .inl fb)), (d4, .inl (cI, 60, .inl fc))] (fun q w2 => (n < 60 ∧ okOp k va vb vc = true ∧ q = (nI n) ∧ w2 = [(md, .inr (5, [.int ((0 : Int32)), .int (nI (n + 1)), .ref d1, .ref d2, .ref d3, .ref d4, .int (nI wt), .int ((0 : Int32)), .int (nI nr), .int (nI ns), .ref d5, .ref d6, .ref d7, .ref d8, .ref d9, .ref da, .ref db, .int ((0 : Int32)), .int nx, .int (nI sp), .int (nI cl2), .int (nI np), .ref dc, .ref dd, .ref de, .int (nI ww), .ref df, .ref dg, .ref dh])), (d1, .inl (cI, 60, .inl (upd fk n k))), (d2, .inl (cI, 60, .inl (upd fa n va))), (d3, .inl (cI, 60, .inl (upd fb n vb))), (d4, .inl (cI, 60, .inl (upd fc n vc)))]) ∨ (¬ (n < 60 ∧ okOp k va vb vc = true) ∧ q = ((-1 : Int32)) ∧ w2 = [(md, .inr (5, [.int ((0 : Int32)), .int (nI n), .ref d1, .ref d2, .ref d3, .ref d4, .int (nI wt), .int isS, .int (nI nr), .int (nI ns), .ref d5, .ref d6, .ref d7, .ref d8, .ref d9, .ref da, .ref db, .int sta, .int nx, .int (nI sp), .int (nI cl2), .int (nI np), .ref dc, .ref dd, .ref de, .int (nI ww), .ref df, .ref dg, .ref dh])), (d1, .inl (cI, 60, .inl fk)), (d2, .inl (cI, 60, .inl fa)), (d3, .inl (cI, 60, .inl fb)), (d4, .inl (cI, 60, .inl fc))])) := by
  refine sm_I.mk (by decide) (Nat.le_of_ble_eq_true rfl) ?_
  intro p e s m below meth c A H locs ls hx hb hr ht hown hlocks hml hnm hP hK hD hA hS hN hl
  have hl : lv_has ls 6 [(0, .ref md), (1, .int k), (2, .int va), (3, .int vb), (4, .int vc)] := hl
  refine lv_aload_n hx hb d_Mod_op_0 rfl (lv_at hl 0 rfl) ?_
  refine lv_iconst (v := 0) hx hb d_Mod_op_1 (by decide) ?_
  refine va_put (D := (dC, dI)) (ci := 5) (v := .int ((0 : Int32))) (ty := .int) (C := R_Mod) (T := T_Mod) (N := 29) hx hb ht i_Mod t_Mod t_Mod_ok n_Mod hown hK hP hD hS 0 rfl rfl 0 (by decide) (ht _ mw_606) (fun _ h9 => h9) rfl (by decide +kernel) rfl rfl (Nat.le_of_ble_eq_true rfl) d_Mod_op_2 (fun H locs hP hD hS => ?_)
  have hP : va_P (dC, dI) smC [(md, .inr (5, [.int ((0 : Int32)), .int (nI n), .ref d1, .ref d2, .ref d3, .ref d4, .int (nI wt), .int isS, .int (nI nr), .int (nI ns), .ref d5, .ref d6, .ref d7, .ref d8, .ref d9, .ref da, .ref db, .int sta, .int nx, .int (nI sp), .int (nI cl2), .int (nI np), .ref dc, .ref dd, .ref de, .int (nI ww), .ref df, .ref dg, .ref dh])), (d1, .inl (cI, 60, .inl fk)), (d2, .inl (cI, 60, .inl fa)), (d3, .inl (cI, 60, .inl fb)), (d4, .inl (cI, 60, .inl fc))] H := hP
  have hD : va_D A [(md, .inr (5, [.int ((0 : Int32)), .int (nI n), .ref d1, .ref d2, .ref d3, .ref d4, .int (nI wt), .int isS, .int (nI nr), .int (nI ns), .ref d5, .ref d6, .ref d7, .ref d8, .ref d9, .ref da, .ref db, .int sta, .int nx, .int (nI sp), .int (nI cl2), .int (nI np), .ref dc, .ref dd, .ref de, .int (nI ww), .ref df, .ref dg, .ref dh])), (d1, .inl (cI, 60, .inl fk)), (d2, .inl (cI, 60, .inl fa)), (d3, .inl (cI, 60, .inl fb)), (d4, .inl (cI, 60, .inl fc))] := hD
  refine lv_aload_n hx hb d_Mod_op_5 rfl (lv_at hl 0 rfl) ?_
  refine va_get (D := (dC, dI)) (ci := 5) (v := .int (nI n)) (C := R_Mod) (T := T_Mod) (N := 29) hx hb ht i_Mod hown hK hP 0 rfl rfl 1 (by decide) (ht _ mw_607) (fun _ h9 => h9) rfl d_Mod_op_6 ?_
  refine lv_bipush (v := 60) hx hb d_Mod_op_9 (by decide) ?_
  refine lv_icmp_eq (tgt := 24) hx hb d_Mod_op_11 (by decide) (fun c_11 => ?_) (fun c_11 => ?_)
  · skip
    have f_11 : n = 60 := (nI_eq (a := n) (b := 60) (by first | omega | decide) (by first | omega | decide)).mp c_11
    refine lv_iconst (v := -1) hx hb d_Mod_op_24 (by decide) ?_
    refine sm_ri (v := (-1 : Int32)) (ws := [(md, .inr (5, [.int ((0 : Int32)), .int (nI n), .ref d1, .ref d2, .ref d3, .ref d4, .int (nI wt), .int isS, .int (nI nr), .int (nI ns), .ref d5, .ref d6, .ref d7, .ref d8, .ref d9, .ref da, .ref db, .int sta, .int nx, .int (nI sp), .int (nI cl2), .int (nI np), .ref dc, .ref dd, .ref de, .int (nI ww), .ref df, .ref dg, .ref dh])), (d1, .inl (cI, 60, .inl fk)), (d2, .inl (cI, 60, .inl fa)), (d3, .inl (cI, 60, .inl fb)), (d4, .inl (cI, 60, .inl fc))]) hx hb hr hlocks hK (hP.sub [0, 1, 2, 3, 4] rfl) (hD.sub [0, 1, 2, 3, 4] (by decide) rfl) hS ?_ d_Mod_op_25
    exact Or.inr ⟨fun z => by omega, rfl, rfl⟩
  · skip
    have f_11 : ¬ n = 60 := fun z => c_11 ((nI_eq (a := n) (b := 60) (by first | omega | decide) (by first | omega | decide)).mpr z)
    refine lv_iload_n hx hb d_Mod_op_14 rfl (lv_at hl 1 rfl) ?_
    refine lv_iconst (v := 0) hx hb d_Mod_op_15 (by decide) ?_
    refine lv_bipush (v := 11) hx hb d_Mod_op_16 (by decide) ?_
    refine sm_goi (wc := []) (wr := [(md, .inr (5, [.int ((0 : Int32)), .int (nI n), .ref d1, .ref d2, .ref d3, .ref d4, .int (nI wt), .int isS, .int (nI nr), .int (nI ns), .ref d5, .ref d6, .ref d7, .ref d8, .ref d9, .ref da, .ref db, .int sta, .int nx, .int (nI sp), .int (nI cl2), .int (nI np), .ref dc, .ref dd, .ref de, .int (nI ww), .ref df, .ref dg, .ref dh])), (d1, .inl (cI, 60, .inl fk)), (d2, .inl (cI, 60, .inl fa)), (d3, .inl (cI, 60, .inl fb)), (d4, .inl (cI, 60, .inl fc))]) (va_runS (As := [.int k, .int ((0 : Int32)), .int ((11 : Int32))]) (rest := []) ⟨hx, hb, hml, hown, ht⟩ ((c_Mod_within (l := l) (dC := dC) (dI := dI) (cI := cI) (cZ := cZ) (x := k) (lo := (0 : Int32)) (hi := (11 : Int32)) ).at H.size) (sm_cS 3 ht mw_704 mw_6 mw_702 mw_703 rfl rfl (by decide +kernel) ⟨Nat.le_of_ble_eq_true rfl, Nat.le_of_ble_eq_true rfl⟩) (sm_preS hN hK hP hD [] rfl rfl (by decide)) rfl rfl hl.1 rfl (lv_room (Nat.le_of_ble_eq_true rfl)) d_Mod_op_18 ⟨Nat.zero_le _, Nat.zero_le _⟩) hP hD hS hA [] [0, 1, 2, 3, 4] rfl rfl (by decide) (by decide) (fun r_18 w_18 H locs q_18 hP hD hS => ?_)
    obtain ⟨rfl, rfl⟩ := q_18
    have hP : va_P (dC, dI) smC [(md, .inr (5, [.int ((0 : Int32)), .int (nI n), .ref d1, .ref d2, .ref d3, .ref d4, .int (nI wt), .int isS, .int (nI nr), .int (nI ns), .ref d5, .ref d6, .ref d7, .ref d8, .ref d9, .ref da, .ref db, .int sta, .int nx, .int (nI sp), .int (nI cl2), .int (nI np), .ref dc, .ref dd, .ref de, .int (nI ww), .ref df, .ref dg, .ref dh])), (d1, .inl (cI, 60, .inl fk)), (d2, .inl (cI, 60, .inl fa)), (d3, .inl (cI, 60, .inl fb)), (d4, .inl (cI, 60, .inl fc))] H := hP
    have hD : va_D A [(md, .inr (5, [.int ((0 : Int32)), .int (nI n), .ref d1, .ref d2, .ref d3, .ref d4, .int (nI wt), .int isS, .int (nI nr), .int (nI ns), .ref d5, .ref d6, .ref d7, .ref d8, .ref d9, .ref da, .ref db, .int sta, .int nx, .int (nI sp), .int (nI cl2), .int (nI np), .ref dc, .ref dd, .ref de, .int (nI ww), .ref df, .ref dg, .ref dh])), (d1, .inl (cI, 60, .inl fk)), (d2, .inl (cI, 60, .inl fa)), (d3, .inl (cI, 60, .inl fb)), (d4, .inl (cI, 60, .inl fc))] := hD
    refine lv_if_ne (tgt := 26) hx hb d_Mod_op_21 (by decide) (fun c_21 => ?_) (fun c_21 => ?_)
    · skip
      have e_21 : (wi k ((0 : Int32)) ((11 : Int32))) = true := b2i_ne0 c_21
      have join_195 : ∀ (gd : Int32) (H : Heap) (locs : List Loc), (gd = b2i (okOp k va vb vc)) → va_P (dC, dI) smC [(md, .inr (5, [.int ((0 : Int32)), .int (nI n), .ref d1, .ref d2, .ref d3, .ref d4, .int (nI wt), .int isS, .int (nI nr), .int (nI ns), .ref d5, .ref d6, .ref d7, .ref d8, .ref d9, .ref da, .ref db, .int sta, .int nx, .int (nI sp), .int (nI cl2), .int (nI np), .ref dc, .ref dd, .ref de, .int (nI ww), .ref df, .ref dg, .ref dh])), (d1, .inl (cI, 60, .inl fk)), (d2, .inl (cI, 60, .inl fa)), (d3, .inl (cI, 60, .inl fb)), (d4, .inl (cI, 60, .inl fc))] H → va_D A [(md, .inr (5, [.int ((0 : Int32)), .int (nI n), .ref d1, .ref d2, .ref d3, .ref d4, .int (nI wt), .int isS, .int (nI nr), .int (nI ns), .ref d5, .ref d6, .ref d7, .ref d8, .ref d9, .ref da, .ref db, .int sta, .int nx, .int (nI sp), .int (nI cl2), .int (nI np), .ref dc, .ref dd, .ref de, .int (nI ww), .ref df, .ref dg, .ref dh])), (d1, .inl (cI, 60, .inl fk)), (d2, .inl (cI, 60, .inl fa)), (d3, .inl (cI, 60, .inl fb)), (d4, .inl (cI, 60, .inl fc))] → va_S A s.heap H locs → ∀ ls : Array Slot, lv_has ls 6 [(0, .ref md), (1, .int k), (2, .int va), (3, .int vb), (4, .int vc), (5, .int gd)] → W p l e (rmF 2 42) s m ([.ref md, .int k, .int va, .int vb, .int vc] : List Value).toArray below meth c H locs 0 0 (MQ below (va_Qi (fun q w2 => (n < 60 ∧ okOp k va vb vc = true ∧ q = (nI n) ∧ w2 = [(md, .inr (5, [.int ((0 : Int32)), .int (nI (n + 1)), .ref d1, .ref d2, .ref d3, .ref d4, .int (nI wt), .int ((0 : Int32)), .int (nI nr), .int (nI ns), .ref d5, .ref d6, .ref d7, .ref d8, .ref d9, .ref da, .ref db, .int ((0 : Int32)), .int nx, .int (nI sp), .int (nI cl2), .int (nI np), .ref dc, .ref dd, .ref de, .int (nI ww), .ref df, .ref dg, .ref dh])), (d1, .inl (cI, 60, .inl (upd fk n k))), (d2, .inl (cI, 60, .inl (upd fa n va))), (d3, .inl (cI, 60, .inl (upd fb n vb))), (d4, .inl (cI, 60, .inl (upd fc n vc)))]) ∨ (¬ (n < 60 ∧ okOp k va vb vc = true) ∧ q = ((-1 : Int32)) ∧ w2 = [(md, .inr (5, [.int ((0 : Int32)), .int (nI n), .ref d1, .ref d2, .ref d3, .ref d4, .int (nI wt), .int isS, .int (nI nr), .int (nI ns), .ref d5, .ref d6, .ref d7, .ref d8, .ref d9, .ref da, .ref db, .int sta, .int nx, .int (nI sp), .int (nI cl2), .int (nI np), .ref dc, .ref dd, .ref de, .int (nI ww), .ref df, .ref dg, .ref dh])), (d1, .inl (cI, 60, .inl fk)), (d2, .inl (cI, 60, .inl fa)), (d3, .inl (cI, 60, .inl fb)), (d4, .inl (cI, 60, .inl fc))])) (sm_B (dC, dI) smC [(cI, .int), (cZ, .boolean)] A) A) ([.ref md, .int k, .int va, .int vb, .int vc] : List Value).toArray s 0 0 A) (F0 m 195 ls []) := by
        intro gd H locs hgd hP hD hS ls hl
        subst hgd
        refine lv_iload hx hb d_Mod_op_195 (lv_at hl 5 rfl) ?_
        refine lv_if_ne (tgt := 202) hx hb d_Mod_op_197 (by decide) (fun c_197 => ?_) (fun c_197 => ?_)
        · skip
          refine lv_aload_n hx hb d_Mod_op_202 rfl (lv_at hl 0 rfl) ?_
          refine va_get (D := (dC, dI)) (ci := 5) (v := .ref d1) (C := R_Mod) (T := T_Mod) (N := 29) hx hb ht i_Mod hown hK hP 0 rfl rfl 2 (by decide) (ht _ mw_608) (fun _ h9 => h9) rfl d_Mod_op_203 ?_
          refine lv_aload_n hx hb d_Mod_op_206 rfl (lv_at hl 0 rfl) ?_
          refine va_get (D := (dC, dI)) (ci := 5) (v := .int (nI n)) (C := R_Mod) (T := T_Mod) (N := 29) hx hb ht i_Mod hown hK hP 0 rfl rfl 1 (by decide) (ht _ mw_607) (fun _ h9 => h9) rfl d_Mod_op_207 ?_
          refine lv_iload_n hx hb d_Mod_op_210 rfl (lv_at hl 1 rfl) ?_
          refine sm_iast (j := n) hx hb hK hP hD hS 1 0 rfl rfl (vp_in_nI (by first | omega | assumption) (by first | decide | omega)) (nI_clamp (by first | omega | (have := sm_lt31; omega))) d_Mod_op_211 (fun H locs hP hD hS => ?_)
          have hP : va_P (dC, dI) smC [(md, .inr (5, [.int ((0 : Int32)), .int (nI n), .ref d1, .ref d2, .ref d3, .ref d4, .int (nI wt), .int isS, .int (nI nr), .int (nI ns), .ref d5, .ref d6, .ref d7, .ref d8, .ref d9, .ref da, .ref db, .int sta, .int nx, .int (nI sp), .int (nI cl2), .int (nI np), .ref dc, .ref dd, .ref de, .int (nI ww), .ref df, .ref dg, .ref dh])), (d1, .inl (cI, 60, .inl (upd fk n k))), (d2, .inl (cI, 60, .inl fa)), (d3, .inl (cI, 60, .inl fb)), (d4, .inl (cI, 60, .inl fc))] H := hP
          have hD : va_D A [(md, .inr (5, [.int ((0 : Int32)), .int (nI n), .ref d1, .ref d2, .ref d3, .ref d4, .int (nI wt), .int isS, .int (nI nr), .int (nI ns), .ref d5, .ref d6, .ref d7, .ref d8, .ref d9, .ref da, .ref db, .int sta, .int nx, .int (nI sp), .int (nI cl2), .int (nI np), .ref dc, .ref dd, .ref de, .int (nI ww), .ref df, .ref dg, .ref dh])), (d1, .inl (cI, 60, .inl (upd fk n k))), (d2, .inl (cI, 60, .inl fa)), (d3, .inl (cI, 60, .inl fb)), (d4, .inl (cI, 60, .inl fc))] := hD
          refine lv_aload_n hx hb d_Mod_op_212 rfl (lv_at hl 0 rfl) ?_
          refine va_get (D := (dC, dI)) (ci := 5) (v := .ref d2) (C := R_Mod) (T := T_Mod) (N := 29) hx hb ht i_Mod hown hK hP 0 rfl rfl 3 (by decide) (ht _ mw_609) (fun _ h9 => h9) rfl d_Mod_op_213 ?_
          refine lv_aload_n hx hb d_Mod_op_216 rfl (lv_at hl 0 rfl) ?_
          refine va_get (D := (dC, dI)) (ci := 5) (v := .int (nI n)) (C := R_Mod) (T := T_Mod) (N := 29) hx hb ht i_Mod hown hK hP 0 rfl rfl 1 (by decide) (ht _ mw_607) (fun _ h9 => h9) rfl d_Mod_op_217 ?_
          refine lv_iload_n hx hb d_Mod_op_220 rfl (lv_at hl 2 rfl) ?_
          refine sm_iast (j := n) hx hb hK hP hD hS 2 0 rfl rfl (vp_in_nI (by first | omega | assumption) (by first | decide | omega)) (nI_clamp (by first | omega | (have := sm_lt31; omega))) d_Mod_op_221 (fun H locs hP hD hS => ?_)
          have hP : va_P (dC, dI) smC [(md, .inr (5, [.int ((0 : Int32)), .int (nI n), .ref d1, .ref d2, .ref d3, .ref d4, .int (nI wt), .int isS, .int (nI nr), .int (nI ns), .ref d5, .ref d6, .ref d7, .ref d8, .ref d9, .ref da, .ref db, .int sta, .int nx, .int (nI sp), .int (nI cl2), .int (nI np), .ref dc, .ref dd, .ref de, .int (nI ww), .ref df, .ref dg, .ref dh])), (d1, .inl (cI, 60, .inl (upd fk n k))), (d2, .inl (cI, 60, .inl (upd fa n va))), (d3, .inl (cI, 60, .inl fb)), (d4, .inl (cI, 60, .inl fc))] H := hP
          have hD : va_D A [(md, .inr (5, [.int ((0 : Int32)), .int (nI n), .ref d1, .ref d2, .ref d3, .ref d4, .int (nI wt), .int isS, .int (nI nr), .int (nI ns), .ref d5, .ref d6, .ref d7, .ref d8, .ref d9, .ref da, .ref db, .int sta, .int nx, .int (nI sp), .int (nI cl2), .int (nI np), .ref dc, .ref dd, .ref de, .int (nI ww), .ref df, .ref dg, .ref dh])), (d1, .inl (cI, 60, .inl (upd fk n k))), (d2, .inl (cI, 60, .inl (upd fa n va))), (d3, .inl (cI, 60, .inl fb)), (d4, .inl (cI, 60, .inl fc))] := hD
          refine lv_aload_n hx hb d_Mod_op_222 rfl (lv_at hl 0 rfl) ?_
          refine va_get (D := (dC, dI)) (ci := 5) (v := .ref d3) (C := R_Mod) (T := T_Mod) (N := 29) hx hb ht i_Mod hown hK hP 0 rfl rfl 4 (by decide) (ht _ mw_610) (fun _ h9 => h9) rfl d_Mod_op_223 ?_
          refine lv_aload_n hx hb d_Mod_op_226 rfl (lv_at hl 0 rfl) ?_
          refine va_get (D := (dC, dI)) (ci := 5) (v := .int (nI n)) (C := R_Mod) (T := T_Mod) (N := 29) hx hb ht i_Mod hown hK hP 0 rfl rfl 1 (by decide) (ht _ mw_607) (fun _ h9 => h9) rfl d_Mod_op_227 ?_
          refine lv_iload_n hx hb d_Mod_op_230 rfl (lv_at hl 3 rfl) ?_
          refine sm_iast (j := n) hx hb hK hP hD hS 3 0 rfl rfl (vp_in_nI (by first | omega | assumption) (by first | decide | omega)) (nI_clamp (by first | omega | (have := sm_lt31; omega))) d_Mod_op_231 (fun H locs hP hD hS => ?_)
          have hP : va_P (dC, dI) smC [(md, .inr (5, [.int ((0 : Int32)), .int (nI n), .ref d1, .ref d2, .ref d3, .ref d4, .int (nI wt), .int isS, .int (nI nr), .int (nI ns), .ref d5, .ref d6, .ref d7, .ref d8, .ref d9, .ref da, .ref db, .int sta, .int nx, .int (nI sp), .int (nI cl2), .int (nI np), .ref dc, .ref dd, .ref de, .int (nI ww), .ref df, .ref dg, .ref dh])), (d1, .inl (cI, 60, .inl (upd fk n k))), (d2, .inl (cI, 60, .inl (upd fa n va))), (d3, .inl (cI, 60, .inl (upd fb n vb))), (d4, .inl (cI, 60, .inl fc))] H := hP
          have hD : va_D A [(md, .inr (5, [.int ((0 : Int32)), .int (nI n), .ref d1, .ref d2, .ref d3, .ref d4, .int (nI wt), .int isS, .int (nI nr), .int (nI ns), .ref d5, .ref d6, .ref d7, .ref d8, .ref d9, .ref da, .ref db, .int sta, .int nx, .int (nI sp), .int (nI cl2), .int (nI np), .ref dc, .ref dd, .ref de, .int (nI ww), .ref df, .ref dg, .ref dh])), (d1, .inl (cI, 60, .inl (upd fk n k))), (d2, .inl (cI, 60, .inl (upd fa n va))), (d3, .inl (cI, 60, .inl (upd fb n vb))), (d4, .inl (cI, 60, .inl fc))] := hD
          refine lv_aload_n hx hb d_Mod_op_232 rfl (lv_at hl 0 rfl) ?_
          refine va_get (D := (dC, dI)) (ci := 5) (v := .ref d4) (C := R_Mod) (T := T_Mod) (N := 29) hx hb ht i_Mod hown hK hP 0 rfl rfl 5 (by decide) (ht _ mw_611) (fun _ h9 => h9) rfl d_Mod_op_233 ?_
          refine lv_aload_n hx hb d_Mod_op_236 rfl (lv_at hl 0 rfl) ?_
          refine va_get (D := (dC, dI)) (ci := 5) (v := .int (nI n)) (C := R_Mod) (T := T_Mod) (N := 29) hx hb ht i_Mod hown hK hP 0 rfl rfl 1 (by decide) (ht _ mw_607) (fun _ h9 => h9) rfl d_Mod_op_237 ?_
          refine lv_iload hx hb d_Mod_op_240 (lv_at hl 4 rfl) ?_
          refine sm_iast (j := n) hx hb hK hP hD hS 4 0 rfl rfl (vp_in_nI (by first | omega | assumption) (by first | decide | omega)) (nI_clamp (by first | omega | (have := sm_lt31; omega))) d_Mod_op_242 (fun H locs hP hD hS => ?_)
          have hP : va_P (dC, dI) smC [(md, .inr (5, [.int ((0 : Int32)), .int (nI n), .ref d1, .ref d2, .ref d3, .ref d4, .int (nI wt), .int isS, .int (nI nr), .int (nI ns), .ref d5, .ref d6, .ref d7, .ref d8, .ref d9, .ref da, .ref db, .int sta, .int nx, .int (nI sp), .int (nI cl2), .int (nI np), .ref dc, .ref dd, .ref de, .int (nI ww), .ref df, .ref dg, .ref dh])), (d1, .inl (cI, 60, .inl (upd fk n k))), (d2, .inl (cI, 60, .inl (upd fa n va))), (d3, .inl (cI, 60, .inl (upd fb n vb))), (d4, .inl (cI, 60, .inl (upd fc n vc)))] H := hP
          have hD : va_D A [(md, .inr (5, [.int ((0 : Int32)), .int (nI n), .ref d1, .ref d2, .ref d3, .ref d4, .int (nI wt), .int isS, .int (nI nr), .int (nI ns), .ref d5, .ref d6, .ref d7, .ref d8, .ref d9, .ref da, .ref db, .int sta, .int nx, .int (nI sp), .int (nI cl2), .int (nI np), .ref dc, .ref dd, .ref de, .int (nI ww), .ref df, .ref dg, .ref dh])), (d1, .inl (cI, 60, .inl (upd fk n k))), (d2, .inl (cI, 60, .inl (upd fa n va))), (d3, .inl (cI, 60, .inl (upd fb n vb))), (d4, .inl (cI, 60, .inl (upd fc n vc)))] := hD
          refine lv_aload_n hx hb d_Mod_op_243 rfl (lv_at hl 0 rfl) ?_
          refine lv_dup hx hb d_Mod_op_244 rfl ?_
          refine va_get (D := (dC, dI)) (ci := 5) (v := .int (nI n)) (C := R_Mod) (T := T_Mod) (N := 29) hx hb ht i_Mod hown hK hP 0 rfl rfl 1 (by decide) (ht _ mw_607) (fun _ h9 => h9) rfl d_Mod_op_245 ?_
          refine lv_iconst (v := 1) hx hb d_Mod_op_248 (by decide) ?_
          refine lv_iadd hx hb d_Mod_op_249 ?_
          refine sm_re (nI_add n 1) ?_
          refine va_put (D := (dC, dI)) (ci := 5) (v := .int (nI (n + 1))) (ty := .int) (C := R_Mod) (T := T_Mod) (N := 29) hx hb ht i_Mod t_Mod t_Mod_ok n_Mod hown hK hP hD hS 0 rfl rfl 1 (by decide) (ht _ mw_607) (fun _ h9 => h9) rfl (by decide +kernel) rfl rfl (Nat.le_of_ble_eq_true rfl) d_Mod_op_250 (fun H locs hP hD hS => ?_)
          have hP : va_P (dC, dI) smC [(md, .inr (5, [.int ((0 : Int32)), .int (nI (n + 1)), .ref d1, .ref d2, .ref d3, .ref d4, .int (nI wt), .int isS, .int (nI nr), .int (nI ns), .ref d5, .ref d6, .ref d7, .ref d8, .ref d9, .ref da, .ref db, .int sta, .int nx, .int (nI sp), .int (nI cl2), .int (nI np), .ref dc, .ref dd, .ref de, .int (nI ww), .ref df, .ref dg, .ref dh])), (d1, .inl (cI, 60, .inl (upd fk n k))), (d2, .inl (cI, 60, .inl (upd fa n va))), (d3, .inl (cI, 60, .inl (upd fb n vb))), (d4, .inl (cI, 60, .inl (upd fc n vc)))] H := hP
          have hD : va_D A [(md, .inr (5, [.int ((0 : Int32)), .int (nI (n + 1)), .ref d1, .ref d2, .ref d3, .ref d4, .int (nI wt), .int isS, .int (nI nr), .int (nI ns), .ref d5, .ref d6, .ref d7, .ref d8, .ref d9, .ref da, .ref db, .int sta, .int nx, .int (nI sp), .int (nI cl2), .int (nI np), .ref dc, .ref dd, .ref de, .int (nI ww), .ref df, .ref dg, .ref dh])), (d1, .inl (cI, 60, .inl (upd fk n k))), (d2, .inl (cI, 60, .inl (upd fa n va))), (d3, .inl (cI, 60, .inl (upd fb n vb))), (d4, .inl (cI, 60, .inl (upd fc n vc)))] := hD
          refine lv_aload_n hx hb d_Mod_op_253 rfl (lv_at hl 0 rfl) ?_
          refine sm_gov (wc := [(md, .inr (5, [.int ((0 : Int32)), .int (nI (n + 1)), .ref d1, .ref d2, .ref d3, .ref d4, .int (nI wt), .int isS, .int (nI nr), .int (nI ns), .ref d5, .ref d6, .ref d7, .ref d8, .ref d9, .ref da, .ref db, .int sta, .int nx, .int (nI sp), .int (nI cl2), .int (nI np), .ref dc, .ref dd, .ref de, .int (nI ww), .ref df, .ref dg, .ref dh]))]) (wr := [(d1, .inl (cI, 60, .inl (upd fk n k))), (d2, .inl (cI, 60, .inl (upd fa n va))), (d3, .inl (cI, 60, .inl (upd fb n vb))), (d4, .inl (cI, 60, .inl (upd fc n vc)))]) (va_runV (As := []) (rest := []) ⟨hx, hb, hml, hown, ht⟩ ((c_Mod_forget (l := l) (dC := dC) (dI := dI) (cI := cI) (cZ := cZ) (md := md) (d1 := d1) (d2 := d2) (d3 := d3) (d4 := d4) (d5 := d5) (d6 := d6) (d7 := d7) (d8 := d8) (d9 := d9) (da := da) (db := db) (dc := dc) (dd := dd) (de := de) (df := df) (dg := dg) (dh := dh) (n := n + 1) (wt := wt) (nr := nr) (ns := ns) (sp := sp) (cl2 := cl2) (np := np) (ww := ww) (th := (0 : Int32)) (isS := isS) (sta := sta) (nx := nx) ).at H.size) (sm_cV 0 ht mw_711 mw_6 mw_708 mw_710 mp_21 rfl rfl (by decide +kernel) ⟨Nat.le_of_ble_eq_true rfl, Nat.le_of_ble_eq_true rfl⟩) (sm_preV (ci := 5) hN hK hP hD [0] rfl rfl (by decide) 0 rfl rfl) rfl rfl hl.1 rfl (lv_room (Nat.le_of_ble_eq_true rfl)) d_Mod_op_254 ⟨Nat.zero_le _, Nat.zero_le _⟩) hP hD hS hA [0] [1, 2, 3, 4] rfl rfl (by decide) (by decide) (fun w_254 H locs q_254 hP hD hS => ?_)
          obtain rfl := q_254
          have hP : va_P (dC, dI) smC [(d1, .inl (cI, 60, .inl (upd fk n k))), (d2, .inl (cI, 60, .inl (upd fa n va))), (d3, .inl (cI, 60, .inl (upd fb n vb))), (d4, .inl (cI, 60, .inl (upd fc n vc))), (md, .inr (5, [.int ((0 : Int32)), .int (nI (n + 1)), .ref d1, .ref d2, .ref d3, .ref d4, .int (nI wt), .int ((0 : Int32)), .int (nI nr), .int (nI ns), .ref d5, .ref d6, .ref d7, .ref d8, .ref d9, .ref da, .ref db, .int ((0 : Int32)), .int nx, .int (nI sp), .int (nI cl2), .int (nI np), .ref dc, .ref dd, .ref de, .int (nI ww), .ref df, .ref dg, .ref dh]))] H := hP
          have hD : va_D A [(d1, .inl (cI, 60, .inl (upd fk n k))), (d2, .inl (cI, 60, .inl (upd fa n va))), (d3, .inl (cI, 60, .inl (upd fb n vb))), (d4, .inl (cI, 60, .inl (upd fc n vc))), (md, .inr (5, [.int ((0 : Int32)), .int (nI (n + 1)), .ref d1, .ref d2, .ref d3, .ref d4, .int (nI wt), .int ((0 : Int32)), .int (nI nr), .int (nI ns), .ref d5, .ref d6, .ref d7, .ref d8, .ref d9, .ref da, .ref db, .int ((0 : Int32)), .int nx, .int (nI sp), .int (nI cl2), .int (nI np), .ref dc, .ref dd, .ref de, .int (nI ww), .ref df, .ref dg, .ref dh]))] := hD
          refine lv_aload_n hx hb d_Mod_op_257 rfl (lv_at hl 0 rfl) ?_
          refine va_get (D := (dC, dI)) (ci := 5) (v := .int (nI (n + 1))) (C := R_Mod) (T := T_Mod) (N := 29) hx hb ht i_Mod hown hK hP 4 rfl rfl 1 (by decide) (ht _ mw_607) (fun _ h9 => h9) rfl d_Mod_op_258 ?_
          refine lv_iconst (v := 1) hx hb d_Mod_op_261 (by decide) ?_
          refine lv_isub hx hb d_Mod_op_262 ?_
          refine sm_re (nI_pred n) ?_
          refine sm_ri (v := nI n) (ws := [(md, .inr (5, [.int ((0 : Int32)), .int (nI (n + 1)), .ref d1, .ref d2, .ref d3, .ref d4, .int (nI wt), .int ((0 : Int32)), .int (nI nr), .int (nI ns), .ref d5, .ref d6, .ref d7, .ref d8, .ref d9, .ref da, .ref db, .int ((0 : Int32)), .int nx, .int (nI sp), .int (nI cl2), .int (nI np), .ref dc, .ref dd, .ref de, .int (nI ww), .ref df, .ref dg, .ref dh])), (d1, .inl (cI, 60, .inl (upd fk n k))), (d2, .inl (cI, 60, .inl (upd fa n va))), (d3, .inl (cI, 60, .inl (upd fb n vb))), (d4, .inl (cI, 60, .inl (upd fc n vc)))]) hx hb hr hlocks hK (hP.sub [4, 0, 1, 2, 3] rfl) (hD.sub [4, 0, 1, 2, 3] (by decide) rfl) hS ?_ d_Mod_op_263
          exact Or.inl ⟨by omega, b2i_ne0 c_197, rfl, rfl⟩
        · skip
          refine lv_iconst (v := -1) hx hb d_Mod_op_200 (by decide) ?_
          refine sm_ri (v := (-1 : Int32)) (ws := [(md, .inr (5, [.int ((0 : Int32)), .int (nI n), .ref d1, .ref d2, .ref d3, .ref d4, .int (nI wt), .int isS, .int (nI nr), .int (nI ns), .ref d5, .ref d6, .ref d7, .ref d8, .ref d9, .ref da, .ref db, .int sta, .int nx, .int (nI sp), .int (nI cl2), .int (nI np), .ref dc, .ref dd, .ref de, .int (nI ww), .ref df, .ref dg, .ref dh])), (d1, .inl (cI, 60, .inl fk)), (d2, .inl (cI, 60, .inl fa)), (d3, .inl (cI, 60, .inl fb)), (d4, .inl (cI, 60, .inl fc))]) hx hb hr hlocks hK (hP.sub [0, 1, 2, 3, 4] rfl) (hD.sub [0, 1, 2, 3, 4] (by decide) rfl) hS ?_ d_Mod_op_201
          exact Or.inr ⟨fun z => (by rw [z.2] at c_197; cases c_197), rfl, rfl⟩
      refine lv_iload_n hx hb d_Mod_op_26 rfl (lv_at hl 1 rfl) ?_
      by_cases g_27_88 : k = 0 ∨ k = 9 ∨ k = 10
      · skip
        refine sm_tab (tgt := 88) hx hb d_Mod_op_27 (by rcases g_27_88 with h | h | h <;> (rw [h]; decide)) ?_
        refine lv_iload_n hx hb d_Mod_op_88 rfl (lv_at hl 2 rfl) ?_
        refine sm_goi (wc := []) (wr := [(md, .inr (5, [.int ((0 : Int32)), .int (nI n), .ref d1, .ref d2, .ref d3, .ref d4, .int (nI wt), .int isS, .int (nI nr), .int (nI ns), .ref d5, .ref d6, .ref d7, .ref d8, .ref d9, .ref da, .ref db, .int sta, .int nx, .int (nI sp), .int (nI cl2), .int (nI np), .ref dc, .ref dd, .ref de, .int (nI ww), .ref df, .ref dg, .ref dh])), (d1, .inl (cI, 60, .inl fk)), (d2, .inl (cI, 60, .inl fa)), (d3, .inl (cI, 60, .inl fb)), (d4, .inl (cI, 60, .inl fc))]) (va_runS (As := [.int va]) (rest := []) ⟨hx, hb, hml, hown, ht⟩ ((c_Mod_isValue (l := l) (dC := dC) (dI := dI) (cI := cI) (cZ := cZ) (v := va) ).at H.size) (sm_cS 1 ht mw_707 mw_6 mw_705 mw_706 rfl rfl (by decide +kernel) ⟨Nat.le_of_ble_eq_true rfl, Nat.le_of_ble_eq_true rfl⟩) (sm_preS hN hK hP hD [] rfl rfl (by decide)) rfl rfl hl.1 rfl (lv_room (Nat.le_of_ble_eq_true rfl)) d_Mod_op_89 ⟨Nat.zero_le _, Nat.zero_le _⟩) hP hD hS hA [] [0, 1, 2, 3, 4] rfl rfl (by decide) (by decide) (fun r_89 w_89 H locs q_89 hP hD hS => ?_)
        obtain ⟨rfl, rfl⟩ := q_89
        have hP : va_P (dC, dI) smC [(md, .inr (5, [.int ((0 : Int32)), .int (nI n), .ref d1, .ref d2, .ref d3, .ref d4, .int (nI wt), .int isS, .int (nI nr), .int (nI ns), .ref d5, .ref d6, .ref d7, .ref d8, .ref d9, .ref da, .ref db, .int sta, .int nx, .int (nI sp), .int (nI cl2), .int (nI np), .ref dc, .ref dd, .ref de, .int (nI ww), .ref df, .ref dg, .ref dh])), (d1, .inl (cI, 60, .inl fk)), (d2, .inl (cI, 60, .inl fa)), (d3, .inl (cI, 60, .inl fb)), (d4, .inl (cI, 60, .inl fc))] H := hP
        have hD : va_D A [(md, .inr (5, [.int ((0 : Int32)), .int (nI n), .ref d1, .ref d2, .ref d3, .ref d4, .int (nI wt), .int isS, .int (nI nr), .int (nI ns), .ref d5, .ref d6, .ref d7, .ref d8, .ref d9, .ref da, .ref db, .int sta, .int nx, .int (nI sp), .int (nI cl2), .int (nI np), .ref dc, .ref dd, .ref de, .int (nI ww), .ref df, .ref dg, .ref dh])), (d1, .inl (cI, 60, .inl fk)), (d2, .inl (cI, 60, .inl fa)), (d3, .inl (cI, 60, .inl fb)), (d4, .inl (cI, 60, .inl fc))] := hD
        refine lv_istore (lv' := [(5, .int (b2i (inB va 24))), (0, .ref md), (1, .int k), (2, .int va), (3, .int vb), (4, .int vc)]) hx hb d_Mod_op_92 hl (by decide) rfl (fun ls hl => ?_)
        refine lv_goto (tgt := 195) hx hb d_Mod_op_94 (by decide) ?_
        exact join_195 (b2i (inB va 24)) _ _ (by rw [okOp, if_pos g_27_88]) (hP.sub [0, 1, 2, 3, 4] rfl) (hD.sub [0, 1, 2, 3, 4] (by decide) rfl) hS _ (lv_sub hl [1, 2, 3, 4, 5, 0] rfl)
      by_cases g_27_97 : k = 6
      · skip
        refine sm_tab (tgt := 97) hx hb d_Mod_op_27 (by rw [g_27_97]; decide) ?_
        refine lv_iload_n hx hb d_Mod_op_97 rfl (lv_at hl 2 rfl) ?_
        refine sm_goi (wc := []) (wr := [(md, .inr (5, [.int ((0 : Int32)), .int (nI n), .ref d1, .ref d2, .ref d3, .ref d4, .int (nI wt), .int isS, .int (nI nr), .int (nI ns), .ref d5, .ref d6, .ref d7, .ref d8, .ref d9, .ref da, .ref db, .int sta, .int nx, .int (nI sp), .int (nI cl2), .int (nI np), .ref dc, .ref dd, .ref de, .int (nI ww), .ref df, .ref dg, .ref dh])), (d1, .inl (cI, 60, .inl fk)), (d2, .inl (cI, 60, .inl fa)), (d3, .inl (cI, 60, .inl fb)), (d4, .inl (cI, 60, .inl fc))]) (va_runS (As := [.int va]) (rest := []) ⟨hx, hb, hml, hown, ht⟩ ((c_Mod_isValue (l := l) (dC := dC) (dI := dI) (cI := cI) (cZ := cZ) (v := va) ).at H.size) (sm_cS 1 ht mw_707 mw_6 mw_705 mw_706 rfl rfl (by decide +kernel) ⟨Nat.le_of_ble_eq_true rfl, Nat.le_of_ble_eq_true rfl⟩) (sm_preS hN hK hP hD [] rfl rfl (by decide)) rfl rfl hl.1 rfl (lv_room (Nat.le_of_ble_eq_true rfl)) d_Mod_op_98 ⟨Nat.zero_le _, Nat.zero_le _⟩) hP hD hS hA [] [0, 1, 2, 3, 4] rfl rfl (by decide) (by decide) (fun r_98 w_98 H locs q_98 hP hD hS => ?_)
        obtain ⟨rfl, rfl⟩ := q_98
        have hP : va_P (dC, dI) smC [(md, .inr (5, [.int ((0 : Int32)), .int (nI n), .ref d1, .ref d2, .ref d3, .ref d4, .int (nI wt), .int isS, .int (nI nr), .int (nI ns), .ref d5, .ref d6, .ref d7, .ref d8, .ref d9, .ref da, .ref db, .int sta, .int nx, .int (nI sp), .int (nI cl2), .int (nI np), .ref dc, .ref dd, .ref de, .int (nI ww), .ref df, .ref dg, .ref dh])), (d1, .inl (cI, 60, .inl fk)), (d2, .inl (cI, 60, .inl fa)), (d3, .inl (cI, 60, .inl fb)), (d4, .inl (cI, 60, .inl fc))] H := hP
        have hD : va_D A [(md, .inr (5, [.int ((0 : Int32)), .int (nI n), .ref d1, .ref d2, .ref d3, .ref d4, .int (nI wt), .int isS, .int (nI nr), .int (nI ns), .ref d5, .ref d6, .ref d7, .ref d8, .ref d9, .ref da, .ref db, .int sta, .int nx, .int (nI sp), .int (nI cl2), .int (nI np), .ref dc, .ref dd, .ref de, .int (nI ww), .ref df, .ref dg, .ref dh])), (d1, .inl (cI, 60, .inl fk)), (d2, .inl (cI, 60, .inl fa)), (d3, .inl (cI, 60, .inl fb)), (d4, .inl (cI, 60, .inl fc))] := hD
        refine lv_if_eq (tgt := 115) hx hb d_Mod_op_101 (by decide) (fun c_101 => ?_) (fun c_101 => ?_)
        · skip
          have e_101 : (inB va 24) = false := b2i_eq0 c_101
          refine lv_iconst (v := 0) hx hb d_Mod_op_115 (by decide) ?_
          refine lv_istore (lv' := [(5, .int ((0 : Int32))), (0, .ref md), (1, .int k), (2, .int va), (3, .int vb), (4, .int vc)]) hx hb d_Mod_op_116 hl (by decide) rfl (fun ls hl => ?_)
          refine lv_goto (tgt := 195) hx hb d_Mod_op_118 (by decide) ?_
          exact join_195 ((0 : Int32)) _ _ (by rw [g_27_97]; simp [okOp, b2i, e_101]) (hP.sub [0, 1, 2, 3, 4] rfl) (hD.sub [0, 1, 2, 3, 4] (by decide) rfl) hS _ (lv_sub hl [1, 2, 3, 4, 5, 0] rfl)
        · skip
          have e_101 : (inB va 24) = true := b2i_ne0 c_101
          refine lv_iload_n hx hb d_Mod_op_104 rfl (lv_at hl 3 rfl) ?_
          refine sm_goi (wc := []) (wr := [(md, .inr (5, [.int ((0 : Int32)), .int (nI n), .ref d1, .ref d2, .ref d3, .ref d4, .int (nI wt), .int isS, .int (nI nr), .int (nI ns), .ref d5, .ref d6, .ref d7, .ref d8, .ref d9, .ref da, .ref db, .int sta, .int nx, .int (nI sp), .int (nI cl2), .int (nI np), .ref dc, .ref dd, .ref de, .int (nI ww), .ref df, .ref dg, .ref dh])), (d1, .inl (cI, 60, .inl fk)), (d2, .inl (cI, 60, .inl fa)), (d3, .inl (cI, 60, .inl fb)), (d4, .inl (cI, 60, .inl fc))]) (va_runS (As := [.int vb]) (rest := []) ⟨hx, hb, hml, hown, ht⟩ ((c_Mod_isValue (l := l) (dC := dC) (dI := dI) (cI := cI) (cZ := cZ) (v := vb) ).at H.size) (sm_cS 1 ht mw_707 mw_6 mw_705 mw_706 rfl rfl (by decide +kernel) ⟨Nat.le_of_ble_eq_true rfl, Nat.le_of_ble_eq_true rfl⟩) (sm_preS hN hK hP hD [] rfl rfl (by decide)) rfl rfl hl.1 rfl (lv_room (Nat.le_of_ble_eq_true rfl)) d_Mod_op_105 ⟨Nat.zero_le _, Nat.zero_le _⟩) hP hD hS hA [] [0, 1, 2, 3, 4] rfl rfl (by decide) (by decide) (fun r_105 w_105 H locs q_105 hP hD hS => ?_)
          obtain ⟨rfl, rfl⟩ := q_105
          have hP : va_P (dC, dI) smC [(md, .inr (5, [.int ((0 : Int32)), .int (nI n), .ref d1, .ref d2, .ref d3, .ref d4, .int (nI wt), .int isS, .int (nI nr), .int (nI ns), .ref d5, .ref d6, .ref d7, .ref d8, .ref d9, .ref da, .ref db, .int sta, .int nx, .int (nI sp), .int (nI cl2), .int (nI np), .ref dc, .ref dd, .ref de, .int (nI ww), .ref df, .ref dg, .ref dh])), (d1, .inl (cI, 60, .inl fk)), (d2, .inl (cI, 60, .inl fa)), (d3, .inl (cI, 60, .inl fb)), (d4, .inl (cI, 60, .inl fc))] H := hP
          have hD : va_D A [(md, .inr (5, [.int ((0 : Int32)), .int (nI n), .ref d1, .ref d2, .ref d3, .ref d4, .int (nI wt), .int isS, .int (nI nr), .int (nI ns), .ref d5, .ref d6, .ref d7, .ref d8, .ref d9, .ref da, .ref db, .int sta, .int nx, .int (nI sp), .int (nI cl2), .int (nI np), .ref dc, .ref dd, .ref de, .int (nI ww), .ref df, .ref dg, .ref dh])), (d1, .inl (cI, 60, .inl fk)), (d2, .inl (cI, 60, .inl fa)), (d3, .inl (cI, 60, .inl fb)), (d4, .inl (cI, 60, .inl fc))] := hD
          refine lv_if_eq (tgt := 115) hx hb d_Mod_op_108 (by decide) (fun c_108 => ?_) (fun c_108 => ?_)
          · skip
            have e_108 : (inB vb 24) = false := b2i_eq0 c_108
            refine lv_iconst (v := 0) hx hb d_Mod_op_115 (by decide) ?_
            refine lv_istore (lv' := [(5, .int ((0 : Int32))), (0, .ref md), (1, .int k), (2, .int va), (3, .int vb), (4, .int vc)]) hx hb d_Mod_op_116 hl (by decide) rfl (fun ls hl => ?_)
            refine lv_goto (tgt := 195) hx hb d_Mod_op_118 (by decide) ?_
            exact join_195 ((0 : Int32)) _ _ (by rw [g_27_97]; simp [okOp, b2i, e_101, e_108]) (hP.sub [0, 1, 2, 3, 4] rfl) (hD.sub [0, 1, 2, 3, 4] (by decide) rfl) hS _ (lv_sub hl [1, 2, 3, 4, 5, 0] rfl)
          · skip
            have e_108 : (inB vb 24) = true := b2i_ne0 c_108
            refine lv_iconst (v := 1) hx hb d_Mod_op_111 (by decide) ?_
            refine lv_goto (tgt := 116) hx hb d_Mod_op_112 (by decide) ?_
            refine lv_istore (lv' := [(5, .int ((1 : Int32))), (0, .ref md), (1, .int k), (2, .int va), (3, .int vb), (4, .int vc)]) hx hb d_Mod_op_116 hl (by decide) rfl (fun ls hl => ?_)
            refine lv_goto (tgt := 195) hx hb d_Mod_op_118 (by decide) ?_
            exact join_195 ((1 : Int32)) _ _ (by rw [g_27_97]; simp [okOp, b2i, e_101, e_108]) (hP.sub [0, 1, 2, 3, 4] rfl) (hD.sub [0, 1, 2, 3, 4] (by decide) rfl) hS _ (lv_sub hl [1, 2, 3, 4, 5, 0] rfl)
      by_cases g_27_121 : k = 7
      · skip
        refine sm_tab (tgt := 121) hx hb d_Mod_op_27 (by rw [g_27_121]; decide) ?_
        refine lv_iload_n hx hb d_Mod_op_121 rfl (lv_at hl 2 rfl) ?_
        refine lv_iconst (v := 0) hx hb d_Mod_op_122 (by decide) ?_
        refine lv_bipush (v := 60) hx hb d_Mod_op_123 (by decide) ?_
        refine sm_goi (wc := []) (wr := [(md, .inr (5, [.int ((0 : Int32)), .int (nI n), .ref d1, .ref d2, .ref d3, .ref d4, .int (nI wt), .int isS, .int (nI nr), .int (nI ns), .ref d5, .ref d6, .ref d7, .ref d8, .ref d9, .ref da, .ref db, .int sta, .int nx, .int (nI sp), .int (nI cl2), .int (nI np), .ref dc, .ref dd, .ref de, .int (nI ww), .ref df, .ref dg, .ref dh])), (d1, .inl (cI, 60, .inl fk)), (d2, .inl (cI, 60, .inl fa)), (d3, .inl (cI, 60, .inl fb)), (d4, .inl (cI, 60, .inl fc))]) (va_runS (As := [.int va, .int ((0 : Int32)), .int ((60 : Int32))]) (rest := []) ⟨hx, hb, hml, hown, ht⟩ ((c_Mod_within (l := l) (dC := dC) (dI := dI) (cI := cI) (cZ := cZ) (x := va) (lo := (0 : Int32)) (hi := (60 : Int32)) ).at H.size) (sm_cS 3 ht mw_704 mw_6 mw_702 mw_703 rfl rfl (by decide +kernel) ⟨Nat.le_of_ble_eq_true rfl, Nat.le_of_ble_eq_true rfl⟩) (sm_preS hN hK hP hD [] rfl rfl (by decide)) rfl rfl hl.1 rfl (lv_room (Nat.le_of_ble_eq_true rfl)) d_Mod_op_125 ⟨Nat.zero_le _, Nat.zero_le _⟩) hP hD hS hA [] [0, 1, 2, 3, 4] rfl rfl (by decide) (by decide) (fun r_125 w_125 H locs q_125 hP hD hS => ?_)
        obtain ⟨rfl, rfl⟩ := q_125
        have hP : va_P (dC, dI) smC [(md, .inr (5, [.int ((0 : Int32)), .int (nI n), .ref d1, .ref d2, .ref d3, .ref d4, .int (nI wt), .int isS, .int (nI nr), .int (nI ns), .ref d5, .ref d6, .ref d7, .ref d8, .ref d9, .ref da, .ref db, .int sta, .int nx, .int (nI sp), .int (nI cl2), .int (nI np), .ref dc, .ref dd, .ref de, .int (nI ww), .ref df, .ref dg, .ref dh])), (d1, .inl (cI, 60, .inl fk)), (d2, .inl (cI, 60, .inl fa)), (d3, .inl (cI, 60, .inl fb)), (d4, .inl (cI, 60, .inl fc))] H := hP
        have hD : va_D A [(md, .inr (5, [.int ((0 : Int32)), .int (nI n), .ref d1, .ref d2, .ref d3, .ref d4, .int (nI wt), .int isS, .int (nI nr), .int (nI ns), .ref d5, .ref d6, .ref d7, .ref d8, .ref d9, .ref da, .ref db, .int sta, .int nx, .int (nI sp), .int (nI cl2), .int (nI np), .ref dc, .ref dd, .ref de, .int (nI ww), .ref df, .ref dg, .ref dh])), (d1, .inl (cI, 60, .inl fk)), (d2, .inl (cI, 60, .inl fa)), (d3, .inl (cI, 60, .inl fb)), (d4, .inl (cI, 60, .inl fc))] := hD
        refine lv_istore (lv' := [(5, .int (b2i (wi va ((0 : Int32)) ((60 : Int32))))), (0, .ref md), (1, .int k), (2, .int va), (3, .int vb), (4, .int vc)]) hx hb d_Mod_op_128 hl (by decide) rfl (fun ls hl => ?_)
        refine lv_goto (tgt := 195) hx hb d_Mod_op_130 (by decide) ?_
        exact join_195 (b2i (wi va ((0 : Int32)) ((60 : Int32)))) _ _ (by rw [g_27_121, wi_60]; simp [okOp]) (hP.sub [0, 1, 2, 3, 4] rfl) (hD.sub [0, 1, 2, 3, 4] (by decide) rfl) hS _ (lv_sub hl [1, 2, 3, 4, 5, 0] rfl)
      by_cases g_27_133 : k = 8
      · skip
        refine sm_tab (tgt := 133) hx hb d_Mod_op_27 (by rw [g_27_133]; decide) ?_
        refine lv_iload_n hx hb d_Mod_op_133 rfl (lv_at hl 2 rfl) ?_
        refine sm_goi (wc := []) (wr := [(md, .inr (5, [.int ((0 : Int32)), .int (nI n), .ref d1, .ref d2, .ref d3, .ref d4, .int (nI wt), .int isS, .int (nI nr), .int (nI ns), .ref d5, .ref d6, .ref d7, .ref d8, .ref d9, .ref da, .ref db, .int sta, .int nx, .int (nI sp), .int (nI cl2), .int (nI np), .ref dc, .ref dd, .ref de, .int (nI ww), .ref df, .ref dg, .ref dh])), (d1, .inl (cI, 60, .inl fk)), (d2, .inl (cI, 60, .inl fa)), (d3, .inl (cI, 60, .inl fb)), (d4, .inl (cI, 60, .inl fc))]) (va_runS (As := [.int va]) (rest := []) ⟨hx, hb, hml, hown, ht⟩ ((c_Mod_isValue (l := l) (dC := dC) (dI := dI) (cI := cI) (cZ := cZ) (v := va) ).at H.size) (sm_cS 1 ht mw_707 mw_6 mw_705 mw_706 rfl rfl (by decide +kernel) ⟨Nat.le_of_ble_eq_true rfl, Nat.le_of_ble_eq_true rfl⟩) (sm_preS hN hK hP hD [] rfl rfl (by decide)) rfl rfl hl.1 rfl (lv_room (Nat.le_of_ble_eq_true rfl)) d_Mod_op_134 ⟨Nat.zero_le _, Nat.zero_le _⟩) hP hD hS hA [] [0, 1, 2, 3, 4] rfl rfl (by decide) (by decide) (fun r_134 w_134 H locs q_134 hP hD hS => ?_)
        obtain ⟨rfl, rfl⟩ := q_134
        have hP : va_P (dC, dI) smC [(md, .inr (5, [.int ((0 : Int32)), .int (nI n), .ref d1, .ref d2, .ref d3, .ref d4, .int (nI wt), .int isS, .int (nI nr), .int (nI ns), .ref d5, .ref d6, .ref d7, .ref d8, .ref d9, .ref da, .ref db, .int sta, .int nx, .int (nI sp), .int (nI cl2), .int (nI np), .ref dc, .ref dd, .ref de, .int (nI ww), .ref df, .ref dg, .ref dh])), (d1, .inl (cI, 60, .inl fk)), (d2, .inl (cI, 60, .inl fa)), (d3, .inl (cI, 60, .inl fb)), (d4, .inl (cI, 60, .inl fc))] H := hP
        have hD : va_D A [(md, .inr (5, [.int ((0 : Int32)), .int (nI n), .ref d1, .ref d2, .ref d3, .ref d4, .int (nI wt), .int isS, .int (nI nr), .int (nI ns), .ref d5, .ref d6, .ref d7, .ref d8, .ref d9, .ref da, .ref db, .int sta, .int nx, .int (nI sp), .int (nI cl2), .int (nI np), .ref dc, .ref dd, .ref de, .int (nI ww), .ref df, .ref dg, .ref dh])), (d1, .inl (cI, 60, .inl fk)), (d2, .inl (cI, 60, .inl fa)), (d3, .inl (cI, 60, .inl fb)), (d4, .inl (cI, 60, .inl fc))] := hD
        refine lv_if_eq (tgt := 154) hx hb d_Mod_op_137 (by decide) (fun c_137 => ?_) (fun c_137 => ?_)
        · skip
          have e_137 : (inB va 24) = false := b2i_eq0 c_137
          refine lv_iconst (v := 0) hx hb d_Mod_op_154 (by decide) ?_
          refine lv_istore (lv' := [(5, .int ((0 : Int32))), (0, .ref md), (1, .int k), (2, .int va), (3, .int vb), (4, .int vc)]) hx hb d_Mod_op_155 hl (by decide) rfl (fun ls hl => ?_)
          refine lv_goto (tgt := 195) hx hb d_Mod_op_157 (by decide) ?_
          exact join_195 ((0 : Int32)) _ _ (by rw [g_27_133]; simp [okOp, b2i, ← wi_60, e_137]) (hP.sub [0, 1, 2, 3, 4] rfl) (hD.sub [0, 1, 2, 3, 4] (by decide) rfl) hS _ (lv_sub hl [1, 2, 3, 4, 5, 0] rfl)
        · skip
          have e_137 : (inB va 24) = true := b2i_ne0 c_137
          refine lv_iload_n hx hb d_Mod_op_140 rfl (lv_at hl 3 rfl) ?_
          refine lv_iconst (v := 0) hx hb d_Mod_op_141 (by decide) ?_
          refine lv_bipush (v := 60) hx hb d_Mod_op_142 (by decide) ?_
          refine sm_goi (wc := []) (wr := [(md, .inr (5, [.int ((0 : Int32)), .int (nI n), .ref d1, .ref d2, .ref d3, .ref d4, .int (nI wt), .int isS, .int (nI nr), .int (nI ns), .ref d5, .ref d6, .ref d7, .ref d8, .ref d9, .ref da, .ref db, .int sta, .int nx, .int (nI sp), .int (nI cl2), .int (nI np), .ref dc, .ref dd, .ref de, .int (nI ww), .ref df, .ref dg, .ref dh])), (d1, .inl (cI, 60, .inl fk)), (d2, .inl (cI, 60, .inl fa)), (d3, .inl (cI, 60, .inl fb)), (d4, .inl (cI, 60, .inl fc))]) (va_runS (As := [.int vb, .int ((0 : Int32)), .int ((60 : Int32))]) (rest := []) ⟨hx, hb, hml, hown, ht⟩ ((c_Mod_within (l := l) (dC := dC) (dI := dI) (cI := cI) (cZ := cZ) (x := vb) (lo := (0 : Int32)) (hi := (60 : Int32)) ).at H.size) (sm_cS 3 ht mw_704 mw_6 mw_702 mw_703 rfl rfl (by decide +kernel) ⟨Nat.le_of_ble_eq_true rfl, Nat.le_of_ble_eq_true rfl⟩) (sm_preS hN hK hP hD [] rfl rfl (by decide)) rfl rfl hl.1 rfl (lv_room (Nat.le_of_ble_eq_true rfl)) d_Mod_op_144 ⟨Nat.zero_le _, Nat.zero_le _⟩) hP hD hS hA [] [0, 1, 2, 3, 4] rfl rfl (by decide) (by decide) (fun r_144 w_144 H locs q_144 hP hD hS => ?_)
          obtain ⟨rfl, rfl⟩ := q_144
          have hP : va_P (dC, dI) smC [(md, .inr (5, [.int ((0 : Int32)), .int (nI n), .ref d1, .ref d2, .ref d3, .ref d4, .int (nI wt), .int isS, .int (nI nr), .int (nI ns), .ref d5, .ref d6, .ref d7, .ref d8, .ref d9, .ref da, .ref db, .int sta, .int nx, .int (nI sp), .int (nI cl2), .int (nI np), .ref dc, .ref dd, .ref de, .int (nI ww), .ref df, .ref dg, .ref dh])), (d1, .inl (cI, 60, .inl fk)), (d2, .inl (cI, 60, .inl fa)), (d3, .inl (cI, 60, .inl fb)), (d4, .inl (cI, 60, .inl fc))] H := hP
          have hD : va_D A [(md, .inr (5, [.int ((0 : Int32)), .int (nI n), .ref d1, .ref d2, .ref d3, .ref d4, .int (nI wt), .int isS, .int (nI nr), .int (nI ns), .ref d5, .ref d6, .ref d7, .ref d8, .ref d9, .ref da, .ref db, .int sta, .int nx, .int (nI sp), .int (nI cl2), .int (nI np), .ref dc, .ref dd, .ref de, .int (nI ww), .ref df, .ref dg, .ref dh])), (d1, .inl (cI, 60, .inl fk)), (d2, .inl (cI, 60, .inl fa)), (d3, .inl (cI, 60, .inl fb)), (d4, .inl (cI, 60, .inl fc))] := hD
          refine lv_if_eq (tgt := 154) hx hb d_Mod_op_147 (by decide) (fun c_147 => ?_) (fun c_147 => ?_)
          · skip
            have e_147 : (wi vb ((0 : Int32)) ((60 : Int32))) = false := b2i_eq0 c_147
            refine lv_iconst (v := 0) hx hb d_Mod_op_154 (by decide) ?_
            refine lv_istore (lv' := [(5, .int ((0 : Int32))), (0, .ref md), (1, .int k), (2, .int va), (3, .int vb), (4, .int vc)]) hx hb d_Mod_op_155 hl (by decide) rfl (fun ls hl => ?_)
            refine lv_goto (tgt := 195) hx hb d_Mod_op_157 (by decide) ?_
            exact join_195 ((0 : Int32)) _ _ (by rw [g_27_133]; simp [okOp, b2i, ← wi_60, e_137, e_147]) (hP.sub [0, 1, 2, 3, 4] rfl) (hD.sub [0, 1, 2, 3, 4] (by decide) rfl) hS _ (lv_sub hl [1, 2, 3, 4, 5, 0] rfl)
          · skip
            have e_147 : (wi vb ((0 : Int32)) ((60 : Int32))) = true := b2i_ne0 c_147
            refine lv_iconst (v := 1) hx hb d_Mod_op_150 (by decide) ?_
            refine lv_goto (tgt := 155) hx hb d_Mod_op_151 (by decide) ?_
            refine lv_istore (lv' := [(5, .int ((1 : Int32))), (0, .ref md), (1, .int k), (2, .int va), (3, .int vb), (4, .int vc)]) hx hb d_Mod_op_155 hl (by decide) rfl (fun ls hl => ?_)
            refine lv_goto (tgt := 195) hx hb d_Mod_op_157 (by decide) ?_
            exact join_195 ((1 : Int32)) _ _ (by rw [g_27_133]; simp [okOp, b2i, ← wi_60, e_137, e_147]) (hP.sub [0, 1, 2, 3, 4] rfl) (hD.sub [0, 1, 2, 3, 4] (by decide) rfl) hS _ (lv_sub hl [1, 2, 3, 4, 5, 0] rfl)
      by_cases g_27_160 : k = 11
      · skip
        refine sm_tab (tgt := 160) hx hb d_Mod_op_27 (by rw [g_27_160]; decide) ?_
        refine lv_iconst (v := 1) hx hb d_Mod_op_160 (by decide) ?_
        refine lv_istore (lv' := [(5, .int ((1 : Int32))), (0, .ref md), (1, .int k), (2, .int va), (3, .int vb), (4, .int vc)]) hx hb d_Mod_op_161 hl (by decide) rfl (fun ls hl => ?_)
        refine lv_goto (tgt := 195) hx hb d_Mod_op_163 (by decide) ?_
        exact join_195 ((1 : Int32)) _ _ (by rw [g_27_160]; simp [okOp, b2i]) (hP.sub [0, 1, 2, 3, 4] rfl) (hD.sub [0, 1, 2, 3, 4] (by decide) rfl) hS _ (lv_sub hl [1, 2, 3, 4, 5, 0] rfl)
      refine sm_tab (tgt := 166) hx hb d_Mod_op_27 (sm_tabD [0, 9, 10, 6, 7, 8, 11] ⟨fun z => g_27_88 (Or.inl z), fun z => g_27_88 (Or.inr (Or.inl z)), fun z => g_27_88 (Or.inr (Or.inr (z))), fun z => g_27_97 (z), fun z => g_27_121 (z), fun z => g_27_133 (z), fun z => g_27_160 (z), trivial⟩ (by decide) (by decide)) ?_
      refine lv_iload_n hx hb d_Mod_op_166 rfl (lv_at hl 2 rfl) ?_
      refine sm_goi (wc := []) (wr := [(md, .inr (5, [.int ((0 : Int32)), .int (nI n), .ref d1, .ref d2, .ref d3, .ref d4, .int (nI wt), .int isS, .int (nI nr), .int (nI ns), .ref d5, .ref d6, .ref d7, .ref d8, .ref d9, .ref da, .ref db, .int sta, .int nx, .int (nI sp), .int (nI cl2), .int (nI np), .ref dc, .ref dd, .ref de, .int (nI ww), .ref df, .ref dg, .ref dh])), (d1, .inl (cI, 60, .inl fk)), (d2, .inl (cI, 60, .inl fa)), (d3, .inl (cI, 60, .inl fb)), (d4, .inl (cI, 60, .inl fc))]) (va_runS (As := [.int va]) (rest := []) ⟨hx, hb, hml, hown, ht⟩ ((c_Mod_isValue (l := l) (dC := dC) (dI := dI) (cI := cI) (cZ := cZ) (v := va) ).at H.size) (sm_cS 1 ht mw_707 mw_6 mw_705 mw_706 rfl rfl (by decide +kernel) ⟨Nat.le_of_ble_eq_true rfl, Nat.le_of_ble_eq_true rfl⟩) (sm_preS hN hK hP hD [] rfl rfl (by decide)) rfl rfl hl.1 rfl (lv_room (Nat.le_of_ble_eq_true rfl)) d_Mod_op_167 ⟨Nat.zero_le _, Nat.zero_le _⟩) hP hD hS hA [] [0, 1, 2, 3, 4] rfl rfl (by decide) (by decide) (fun r_167 w_167 H locs q_167 hP hD hS => ?_)
      obtain ⟨rfl, rfl⟩ := q_167
      have hP : va_P (dC, dI) smC [(md, .inr (5, [.int ((0 : Int32)), .int (nI n), .ref d1, .ref d2, .ref d3, .ref d4, .int (nI wt), .int isS, .int (nI nr), .int (nI ns), .ref d5, .ref d6, .ref d7, .ref d8, .ref d9, .ref da, .ref db, .int sta, .int nx, .int (nI sp), .int (nI cl2), .int (nI np), .ref dc, .ref dd, .ref de, .int (nI ww), .ref df, .ref dg, .ref dh])), (d1, .inl (cI, 60, .inl fk)), (d2, .inl (cI, 60, .inl fa)), (d3, .inl (cI, 60, .inl fb)), (d4, .inl (cI, 60, .inl fc))] H := hP
      have hD : va_D A [(md, .inr (5, [.int ((0 : Int32)), .int (nI n), .ref d1, .ref d2, .ref d3, .ref d4, .int (nI wt), .int isS, .int (nI nr), .int (nI ns), .ref d5, .ref d6, .ref d7, .ref d8, .ref d9, .ref da, .ref db, .int sta, .int nx, .int (nI sp), .int (nI cl2), .int (nI np), .ref dc, .ref dd, .ref de, .int (nI ww), .ref df, .ref dg, .ref dh])), (d1, .inl (cI, 60, .inl fk)), (d2, .inl (cI, 60, .inl fa)), (d3, .inl (cI, 60, .inl fb)), (d4, .inl (cI, 60, .inl fc))] := hD
      refine lv_if_eq (tgt := 192) hx hb d_Mod_op_170 (by decide) (fun c_170 => ?_) (fun c_170 => ?_)
      · skip
        have e_170 : (inB va 24) = false := b2i_eq0 c_170
        refine lv_iconst (v := 0) hx hb d_Mod_op_192 (by decide) ?_
        refine lv_istore (lv' := [(5, .int ((0 : Int32))), (0, .ref md), (1, .int k), (2, .int va), (3, .int vb), (4, .int vc)]) hx hb d_Mod_op_193 hl (by decide) rfl (fun ls hl => ?_)
        exact join_195 ((0 : Int32)) _ _ (okd e_21 g_27_88 g_27_97 g_27_121 g_27_133 g_27_160 (by simp [b2i, e_170])) (hP.sub [0, 1, 2, 3, 4] rfl) (hD.sub [0, 1, 2, 3, 4] (by decide) rfl) hS _ (lv_sub hl [1, 2, 3, 4, 5, 0] rfl)
      · skip
        have e_170 : (inB va 24) = true := b2i_ne0 c_170
        refine lv_iload_n hx hb d_Mod_op_173 rfl (lv_at hl 3 rfl) ?_
        refine sm_goi (wc := []) (wr := [(md, .inr (5, [.int ((0 : Int32)), .int (nI n), .ref d1, .ref d2, .ref d3, .ref d4, .int (nI wt), .int isS, .int (nI nr), .int (nI ns), .ref d5, .ref d6, .ref d7, .ref d8, .ref d9, .ref da, .ref db, .int sta, .int nx, .int (nI sp), .int (nI cl2), .int (nI np), .ref dc, .ref dd, .ref de, .int (nI ww), .ref df, .ref dg, .ref dh])), (d1, .inl (cI, 60, .inl fk)), (d2, .inl (cI, 60, .inl fa)), (d3, .inl (cI, 60, .inl fb)), (d4, .inl (cI, 60, .inl fc))]) (va_runS (As := [.int vb]) (rest := []) ⟨hx, hb, hml, hown, ht⟩ ((c_Mod_isValue (l := l) (dC := dC) (dI := dI) (cI := cI) (cZ := cZ) (v := vb) ).at H.size) (sm_cS 1 ht mw_707 mw_6 mw_705 mw_706 rfl rfl (by decide +kernel) ⟨Nat.le_of_ble_eq_true rfl, Nat.le_of_ble_eq_true rfl⟩) (sm_preS hN hK hP hD [] rfl rfl (by decide)) rfl rfl hl.1 rfl (lv_room (Nat.le_of_ble_eq_true rfl)) d_Mod_op_174 ⟨Nat.zero_le _, Nat.zero_le _⟩) hP hD hS hA [] [0, 1, 2, 3, 4] rfl rfl (by decide) (by decide) (fun r_174 w_174 H locs q_174 hP hD hS => ?_)
        obtain ⟨rfl, rfl⟩ := q_174
        have hP : va_P (dC, dI) smC [(md, .inr (5, [.int ((0 : Int32)), .int (nI n), .ref d1, .ref d2, .ref d3, .ref d4, .int (nI wt), .int isS, .int (nI nr), .int (nI ns), .ref d5, .ref d6, .ref d7, .ref d8, .ref d9, .ref da, .ref db, .int sta, .int nx, .int (nI sp), .int (nI cl2), .int (nI np), .ref dc, .ref dd, .ref de, .int (nI ww), .ref df, .ref dg, .ref dh])), (d1, .inl (cI, 60, .inl fk)), (d2, .inl (cI, 60, .inl fa)), (d3, .inl (cI, 60, .inl fb)), (d4, .inl (cI, 60, .inl fc))] H := hP
        have hD : va_D A [(md, .inr (5, [.int ((0 : Int32)), .int (nI n), .ref d1, .ref d2, .ref d3, .ref d4, .int (nI wt), .int isS, .int (nI nr), .int (nI ns), .ref d5, .ref d6, .ref d7, .ref d8, .ref d9, .ref da, .ref db, .int sta, .int nx, .int (nI sp), .int (nI cl2), .int (nI np), .ref dc, .ref dd, .ref de, .int (nI ww), .ref df, .ref dg, .ref dh])), (d1, .inl (cI, 60, .inl fk)), (d2, .inl (cI, 60, .inl fa)), (d3, .inl (cI, 60, .inl fb)), (d4, .inl (cI, 60, .inl fc))] := hD
        refine lv_if_eq (tgt := 192) hx hb d_Mod_op_177 (by decide) (fun c_177 => ?_) (fun c_177 => ?_)
        · skip
          have e_177 : (inB vb 24) = false := b2i_eq0 c_177
          refine lv_iconst (v := 0) hx hb d_Mod_op_192 (by decide) ?_
          refine lv_istore (lv' := [(5, .int ((0 : Int32))), (0, .ref md), (1, .int k), (2, .int va), (3, .int vb), (4, .int vc)]) hx hb d_Mod_op_193 hl (by decide) rfl (fun ls hl => ?_)
          exact join_195 ((0 : Int32)) _ _ (okd e_21 g_27_88 g_27_97 g_27_121 g_27_133 g_27_160 (by simp [b2i, e_170, e_177])) (hP.sub [0, 1, 2, 3, 4] rfl) (hD.sub [0, 1, 2, 3, 4] (by decide) rfl) hS _ (lv_sub hl [1, 2, 3, 4, 5, 0] rfl)
        · skip
          have e_177 : (inB vb 24) = true := b2i_ne0 c_177
          refine lv_iload hx hb d_Mod_op_180 (lv_at hl 4 rfl) ?_
          refine sm_goi (wc := []) (wr := [(md, .inr (5, [.int ((0 : Int32)), .int (nI n), .ref d1, .ref d2, .ref d3, .ref d4, .int (nI wt), .int isS, .int (nI nr), .int (nI ns), .ref d5, .ref d6, .ref d7, .ref d8, .ref d9, .ref da, .ref db, .int sta, .int nx, .int (nI sp), .int (nI cl2), .int (nI np), .ref dc, .ref dd, .ref de, .int (nI ww), .ref df, .ref dg, .ref dh])), (d1, .inl (cI, 60, .inl fk)), (d2, .inl (cI, 60, .inl fa)), (d3, .inl (cI, 60, .inl fb)), (d4, .inl (cI, 60, .inl fc))]) (va_runS (As := [.int vc]) (rest := []) ⟨hx, hb, hml, hown, ht⟩ ((c_Mod_isValue (l := l) (dC := dC) (dI := dI) (cI := cI) (cZ := cZ) (v := vc) ).at H.size) (sm_cS 1 ht mw_707 mw_6 mw_705 mw_706 rfl rfl (by decide +kernel) ⟨Nat.le_of_ble_eq_true rfl, Nat.le_of_ble_eq_true rfl⟩) (sm_preS hN hK hP hD [] rfl rfl (by decide)) rfl rfl hl.1 rfl (lv_room (Nat.le_of_ble_eq_true rfl)) d_Mod_op_182 ⟨Nat.zero_le _, Nat.zero_le _⟩) hP hD hS hA [] [0, 1, 2, 3, 4] rfl rfl (by decide) (by decide) (fun r_182 w_182 H locs q_182 hP hD hS => ?_)
          obtain ⟨rfl, rfl⟩ := q_182
          have hP : va_P (dC, dI) smC [(md, .inr (5, [.int ((0 : Int32)), .int (nI n), .ref d1, .ref d2, .ref d3, .ref d4, .int (nI wt), .int isS, .int (nI nr), .int (nI ns), .ref d5, .ref d6, .ref d7, .ref d8, .ref d9, .ref da, .ref db, .int sta, .int nx, .int (nI sp), .int (nI cl2), .int (nI np), .ref dc, .ref dd, .ref de, .int (nI ww), .ref df, .ref dg, .ref dh])), (d1, .inl (cI, 60, .inl fk)), (d2, .inl (cI, 60, .inl fa)), (d3, .inl (cI, 60, .inl fb)), (d4, .inl (cI, 60, .inl fc))] H := hP
          have hD : va_D A [(md, .inr (5, [.int ((0 : Int32)), .int (nI n), .ref d1, .ref d2, .ref d3, .ref d4, .int (nI wt), .int isS, .int (nI nr), .int (nI ns), .ref d5, .ref d6, .ref d7, .ref d8, .ref d9, .ref da, .ref db, .int sta, .int nx, .int (nI sp), .int (nI cl2), .int (nI np), .ref dc, .ref dd, .ref de, .int (nI ww), .ref df, .ref dg, .ref dh])), (d1, .inl (cI, 60, .inl fk)), (d2, .inl (cI, 60, .inl fa)), (d3, .inl (cI, 60, .inl fb)), (d4, .inl (cI, 60, .inl fc))] := hD
          refine lv_if_eq (tgt := 192) hx hb d_Mod_op_185 (by decide) (fun c_185 => ?_) (fun c_185 => ?_)
          · skip
            have e_185 : (inB vc 24) = false := b2i_eq0 c_185
            refine lv_iconst (v := 0) hx hb d_Mod_op_192 (by decide) ?_
            refine lv_istore (lv' := [(5, .int ((0 : Int32))), (0, .ref md), (1, .int k), (2, .int va), (3, .int vb), (4, .int vc)]) hx hb d_Mod_op_193 hl (by decide) rfl (fun ls hl => ?_)
            exact join_195 ((0 : Int32)) _ _ (okd e_21 g_27_88 g_27_97 g_27_121 g_27_133 g_27_160 (by simp [b2i, e_170, e_177, e_185])) (hP.sub [0, 1, 2, 3, 4] rfl) (hD.sub [0, 1, 2, 3, 4] (by decide) rfl) hS _ (lv_sub hl [1, 2, 3, 4, 5, 0] rfl)
          · skip
            have e_185 : (inB vc 24) = true := b2i_ne0 c_185
            refine lv_iconst (v := 1) hx hb d_Mod_op_188 (by decide) ?_
            refine lv_goto (tgt := 193) hx hb d_Mod_op_189 (by decide) ?_
            refine lv_istore (lv' := [(5, .int ((1 : Int32))), (0, .ref md), (1, .int k), (2, .int va), (3, .int vb), (4, .int vc)]) hx hb d_Mod_op_193 hl (by decide) rfl (fun ls hl => ?_)
            exact join_195 ((1 : Int32)) _ _ (okd e_21 g_27_88 g_27_97 g_27_121 g_27_133 g_27_160 (by simp [b2i, e_170, e_177, e_185])) (hP.sub [0, 1, 2, 3, 4] rfl) (hD.sub [0, 1, 2, 3, 4] (by decide) rfl) hS _ (lv_sub hl [1, 2, 3, 4, 5, 0] rfl)
    · skip
      have e_21 : (wi k ((0 : Int32)) ((11 : Int32))) = false := b2i_eq0 c_21
      refine lv_iconst (v := -1) hx hb d_Mod_op_24 (by decide) ?_
      refine sm_ri (v := (-1 : Int32)) (ws := [(md, .inr (5, [.int ((0 : Int32)), .int (nI n), .ref d1, .ref d2, .ref d3, .ref d4, .int (nI wt), .int isS, .int (nI nr), .int (nI ns), .ref d5, .ref d6, .ref d7, .ref d8, .ref d9, .ref da, .ref db, .int sta, .int nx, .int (nI sp), .int (nI cl2), .int (nI np), .ref dc, .ref dd, .ref de, .int (nI ww), .ref df, .ref dg, .ref dh])), (d1, .inl (cI, 60, .inl fk)), (d2, .inl (cI, 60, .inl fa)), (d3, .inl (cI, 60, .inl fb)), (d4, .inl (cI, 60, .inl fc))]) hx hb hr hlocks hK (hP.sub [0, 1, 2, 3, 4] rfl) (hD.sub [0, 1, 2, 3, 4] (by decide) rfl) hS ?_ d_Mod_op_25
      exact Or.inr ⟨fun z => (by rw [okOp_wi z.2] at e_21; cases e_21), rfl, rfl⟩
abbrev y_Mod_clear : MethodName := ⟨"ScanMillModel", "clear", "()I"⟩
theorem d_Mod_clear_0 : decode prog_7_method_7_code 0 = .ok (.aload_n 0, 1) := by decide +kernel
theorem d_Mod_clear_1 : decode prog_7_method_7_code 1 = .ok (.iconst 0, 1) := by decide +kernel
theorem d_Mod_clear_2 : decode prog_7_method_7_code 2 = .ok (.putfield 66, 3) := by decide +kernel
theorem d_Mod_clear_5 : decode prog_7_method_7_code 5 = .ok (.aload_n 0, 1) := by decide +kernel
theorem d_Mod_clear_6 : decode prog_7_method_7_code 6 = .ok (.getfield 80, 3) := by decide +kernel
theorem d_Mod_clear_9 : decode prog_7_method_7_code 9 = .ok (.istore_n 1, 1) := by decide +kernel
theorem d_Mod_clear_10 : decode prog_7_method_7_code 10 = .ok (.aload_n 0, 1) := by decide +kernel
theorem d_Mod_clear_11 : decode prog_7_method_7_code 11 = .ok (.iconst 0, 1) := by decide +kernel
theorem d_Mod_clear_12 : decode prog_7_method_7_code 12 = .ok (.putfield 80, 3) := by decide +kernel
theorem d_Mod_clear_15 : decode prog_7_method_7_code 15 = .ok (.aload_n 0, 1) := by decide +kernel
theorem d_Mod_clear_16 : decode prog_7_method_7_code 16 = .ok (.invokevirtual 87, 3) := by decide +kernel
theorem d_Mod_clear_19 : decode prog_7_method_7_code 19 = .ok (.iload_n 1, 1) := by decide +kernel
theorem d_Mod_clear_20 : decode prog_7_method_7_code 20 = .ok (.ireturn, 1) := by decide +kernel
set_option maxRecDepth 100000 in
set_option maxHeartbeats 4000000 in
theorem c_Mod_clear {l : Launch} {dC : Nat → ClassId} {dI : Nat → Nat → Nat} {cI cZ : ClassId} {md d1 d2 d3 d4 d5 d6 d7 d8 d9 da db dc dd de df dg dh n wt nr ns sp cl2 np ww : Nat} {th isS sta nx : Int32}  : sm_I l y_Mod_clear prog_7_method_7_code 2 (some .int) (rmF 1 20) (dC, dI) smC [(cI, .int), (cZ, .boolean)] [.ref md] [(md, .inr (5, [.int th, .int (nI n), .ref d1, .ref d2, .ref d3, .ref d4, .int (nI wt), .int isS, .int (nI nr), .int (nI ns), .ref d5, .ref d6, .ref d7, .ref d8, .ref d9, .ref da, .ref db, .int sta, .int nx, .int (nI sp), .int (nI cl2), .int (nI np), .ref dc, .ref dd, .ref de, .int (nI ww), .ref df, .ref dg, .ref dh]))] (fun q w2 => q = (nI n) ∧ w2 = [(md, .inr (5, [.int ((0 : Int32)), .int ((0 : Int32)), .ref d1, .ref d2, .ref d3, .ref d4, .int (nI wt), .int ((0 : Int32)), .int (nI nr), .int (nI ns), .ref d5, .ref d6, .ref d7, .ref d8, .ref d9, .ref da, .ref db, .int ((0 : Int32)), .int nx, .int (nI sp), .int (nI cl2), .int (nI np), .ref dc, .ref dd, .ref de, .int (nI ww), .ref df, .ref dg, .ref dh]))]) := by
  refine sm_I.mk (by decide) (Nat.le_of_ble_eq_true rfl) ?_
  intro p e s m below meth c A H locs ls hx hb hr ht hown hlocks hml hnm hP hK hD hA hS hN hl
  have hl : lv_has ls 2 [(0, .ref md)] := hl
  refine lv_aload_n hx hb d_Mod_clear_0 rfl (lv_at hl 0 rfl) ?_
  refine lv_iconst (v := 0) hx hb d_Mod_clear_1 (by decide) ?_
  refine va_put (D := (dC, dI)) (ci := 5) (v := .int ((0 : Int32))) (ty := .int) (C := R_Mod) (T := T_Mod) (N := 29) hx hb ht i_Mod t_Mod t_Mod_ok n_Mod hown hK hP hD hS 0 rfl rfl 0 (by decide) (ht _ mw_606) (fun _ h9 => h9) rfl (by decide +kernel) rfl rfl (Nat.le_of_ble_eq_true rfl) d_Mod_clear_2 (fun H locs hP hD hS => ?_)
  have hP : va_P (dC, dI) smC [(md, .inr (5, [.int ((0 : Int32)), .int (nI n), .ref d1, .ref d2, .ref d3, .ref d4, .int (nI wt), .int isS, .int (nI nr), .int (nI ns), .ref d5, .ref d6, .ref d7, .ref d8, .ref d9, .ref da, .ref db, .int sta, .int nx, .int (nI sp), .int (nI cl2), .int (nI np), .ref dc, .ref dd, .ref de, .int (nI ww), .ref df, .ref dg, .ref dh]))] H := hP
  have hD : va_D A [(md, .inr (5, [.int ((0 : Int32)), .int (nI n), .ref d1, .ref d2, .ref d3, .ref d4, .int (nI wt), .int isS, .int (nI nr), .int (nI ns), .ref d5, .ref d6, .ref d7, .ref d8, .ref d9, .ref da, .ref db, .int sta, .int nx, .int (nI sp), .int (nI cl2), .int (nI np), .ref dc, .ref dd, .ref de, .int (nI ww), .ref df, .ref dg, .ref dh]))] := hD
  refine lv_aload_n hx hb d_Mod_clear_5 rfl (lv_at hl 0 rfl) ?_
  refine va_get (D := (dC, dI)) (ci := 5) (v := .int (nI n)) (C := R_Mod) (T := T_Mod) (N := 29) hx hb ht i_Mod hown hK hP 0 rfl rfl 1 (by decide) (ht _ mw_607) (fun _ h9 => h9) rfl d_Mod_clear_6 ?_
  refine lv_istore_n (lv' := [(1, .int (nI n)), (0, .ref md)]) hx hb d_Mod_clear_9 rfl hl (by decide) rfl (fun ls hl => ?_)
  refine lv_aload_n hx hb d_Mod_clear_10 rfl (lv_at hl 1 rfl) ?_
  refine lv_iconst (v := 0) hx hb d_Mod_clear_11 (by decide) ?_
  refine va_put (D := (dC, dI)) (ci := 5) (v := .int ((0 : Int32))) (ty := .int) (C := R_Mod) (T := T_Mod) (N := 29) hx hb ht i_Mod t_Mod t_Mod_ok n_Mod hown hK hP hD hS 0 rfl rfl 1 (by decide) (ht _ mw_607) (fun _ h9 => h9) rfl (by decide +kernel) rfl rfl (Nat.le_of_ble_eq_true rfl) d_Mod_clear_12 (fun H locs hP hD hS => ?_)
  have hP : va_P (dC, dI) smC [(md, .inr (5, [.int ((0 : Int32)), .int ((0 : Int32)), .ref d1, .ref d2, .ref d3, .ref d4, .int (nI wt), .int isS, .int (nI nr), .int (nI ns), .ref d5, .ref d6, .ref d7, .ref d8, .ref d9, .ref da, .ref db, .int sta, .int nx, .int (nI sp), .int (nI cl2), .int (nI np), .ref dc, .ref dd, .ref de, .int (nI ww), .ref df, .ref dg, .ref dh]))] H := hP
  have hD : va_D A [(md, .inr (5, [.int ((0 : Int32)), .int ((0 : Int32)), .ref d1, .ref d2, .ref d3, .ref d4, .int (nI wt), .int isS, .int (nI nr), .int (nI ns), .ref d5, .ref d6, .ref d7, .ref d8, .ref d9, .ref da, .ref db, .int sta, .int nx, .int (nI sp), .int (nI cl2), .int (nI np), .ref dc, .ref dd, .ref de, .int (nI ww), .ref df, .ref dg, .ref dh]))] := hD
  refine lv_aload_n hx hb d_Mod_clear_15 rfl (lv_at hl 1 rfl) ?_
  refine sm_gov (wc := [(md, .inr (5, [.int ((0 : Int32)), .int ((0 : Int32)), .ref d1, .ref d2, .ref d3, .ref d4, .int (nI wt), .int isS, .int (nI nr), .int (nI ns), .ref d5, .ref d6, .ref d7, .ref d8, .ref d9, .ref da, .ref db, .int sta, .int nx, .int (nI sp), .int (nI cl2), .int (nI np), .ref dc, .ref dd, .ref de, .int (nI ww), .ref df, .ref dg, .ref dh]))]) (wr := []) (va_runV (As := []) (rest := []) ⟨hx, hb, hml, hown, ht⟩ ((c_Mod_forget (l := l) (dC := dC) (dI := dI) (cI := cI) (cZ := cZ) (md := md) (d1 := d1) (d2 := d2) (d3 := d3) (d4 := d4) (d5 := d5) (d6 := d6) (d7 := d7) (d8 := d8) (d9 := d9) (da := da) (db := db) (dc := dc) (dd := dd) (de := de) (df := df) (dg := dg) (dh := dh) (n := 0) (wt := wt) (nr := nr) (ns := ns) (sp := sp) (cl2 := cl2) (np := np) (ww := ww) (th := (0 : Int32)) (isS := isS) (sta := sta) (nx := nx) ).at H.size) (sm_cV 0 ht mw_711 mw_6 mw_708 mw_710 mp_21 rfl rfl (by decide +kernel) ⟨Nat.le_of_ble_eq_true rfl, Nat.le_of_ble_eq_true rfl⟩) (sm_preV (ci := 5) hN hK hP hD [0] rfl rfl (by decide) 0 rfl rfl) rfl rfl hl.1 rfl (lv_room (Nat.le_of_ble_eq_true rfl)) d_Mod_clear_16 ⟨Nat.zero_le _, Nat.zero_le _⟩) hP hD hS hA [0] [] rfl rfl (by decide) (by decide) (fun w_16 H locs q_16 hP hD hS => ?_)
  obtain rfl := q_16
  have hP : va_P (dC, dI) smC [(md, .inr (5, [.int ((0 : Int32)), .int (nI 0), .ref d1, .ref d2, .ref d3, .ref d4, .int (nI wt), .int ((0 : Int32)), .int (nI nr), .int (nI ns), .ref d5, .ref d6, .ref d7, .ref d8, .ref d9, .ref da, .ref db, .int ((0 : Int32)), .int nx, .int (nI sp), .int (nI cl2), .int (nI np), .ref dc, .ref dd, .ref de, .int (nI ww), .ref df, .ref dg, .ref dh]))] H := hP
  have hD : va_D A [(md, .inr (5, [.int ((0 : Int32)), .int (nI 0), .ref d1, .ref d2, .ref d3, .ref d4, .int (nI wt), .int ((0 : Int32)), .int (nI nr), .int (nI ns), .ref d5, .ref d6, .ref d7, .ref d8, .ref d9, .ref da, .ref db, .int ((0 : Int32)), .int nx, .int (nI sp), .int (nI cl2), .int (nI np), .ref dc, .ref dd, .ref de, .int (nI ww), .ref df, .ref dg, .ref dh]))] := hD
  refine lv_iload_n hx hb d_Mod_clear_19 rfl (lv_at hl 0 rfl) ?_
  refine sm_ri (v := nI n) (ws := [(md, .inr (5, [.int ((0 : Int32)), .int (nI 0), .ref d1, .ref d2, .ref d3, .ref d4, .int (nI wt), .int ((0 : Int32)), .int (nI nr), .int (nI ns), .ref d5, .ref d6, .ref d7, .ref d8, .ref d9, .ref da, .ref db, .int ((0 : Int32)), .int nx, .int (nI sp), .int (nI cl2), .int (nI np), .ref dc, .ref dd, .ref de, .int (nI ww), .ref df, .ref dg, .ref dh]))]) hx hb hr hlocks hK (hP.sub [0] rfl) (hD.sub [0] (by decide) rfl) hS ?_ d_Mod_clear_20
  exact ⟨rfl, rfl⟩
abbrev y_Mod_registers : MethodName := ⟨"ScanMillModel", "registers", "(I)Z"⟩
theorem d_Mod_registers_0 : decode prog_7_method_8_code 0 = .ok (.aload_n 0, 1) := by decide +kernel
theorem d_Mod_registers_1 : decode prog_7_method_8_code 1 = .ok (.iconst 0, 1) := by decide +kernel
theorem d_Mod_registers_2 : decode prog_7_method_8_code 2 = .ok (.putfield 66, 3) := by decide +kernel
theorem d_Mod_registers_5 : decode prog_7_method_8_code 5 = .ok (.iload_n 1, 1) := by decide +kernel
theorem d_Mod_registers_6 : decode prog_7_method_8_code 6 = .ok (.iconst 1, 1) := by decide +kernel
theorem d_Mod_registers_7 : decode prog_7_method_8_code 7 = .ok (.bipush 8, 2) := by decide +kernel
theorem d_Mod_registers_9 : decode prog_7_method_8_code 9 = .ok (.invokestatic 69, 3) := by decide +kernel
theorem d_Mod_registers_12 : decode prog_7_method_8_code 12 = .ok (.ifCond .ne 5, 3) := by decide +kernel
theorem d_Mod_registers_17 : decode prog_7_method_8_code 17 = .ok (.aload_n 0, 1) := by decide +kernel
theorem d_Mod_registers_18 : decode prog_7_method_8_code 18 = .ok (.iload_n 1, 1) := by decide +kernel
theorem d_Mod_registers_19 : decode prog_7_method_8_code 19 = .ok (.putfield 22, 3) := by decide +kernel
theorem mw_612 : Cond.fieldLink "ScanMillModel" 22 "ScanMillModel" "wanted" "I" ∈ wG := wG_t 612 (by decide +kernel) (by decide +kernel)
theorem d_Mod_registers_22 : decode prog_7_method_8_code 22 = .ok (.iconst 1, 1) := by decide +kernel
theorem d_Mod_registers_23 : decode prog_7_method_8_code 23 = .ok (.ireturn, 1) := by decide +kernel
theorem d_Mod_registers_15 : decode prog_7_method_8_code 15 = .ok (.iconst 0, 1) := by decide +kernel
theorem d_Mod_registers_16 : decode prog_7_method_8_code 16 = .ok (.ireturn, 1) := by decide +kernel
set_option maxRecDepth 100000 in
set_option maxHeartbeats 4000000 in
theorem c_Mod_registers {l : Launch} {dC : Nat → ClassId} {dI : Nat → Nat → Nat} {cI cZ : ClassId} {md d1 d2 d3 d4 d5 d6 d7 d8 d9 da db dc dd de df dg dh n wt nr ns sp cl2 np ww : Nat} {th isS sta nx : Int32} {many : Int32}  : sm_I l y_Mod_registers prog_7_method_8_code 2 (some .boolean) (rmF 1 22) (dC, dI) smC [(cI, .int), (cZ, .boolean)] [.ref md, .int many] [(md, .inr (5, [.int th, .int (nI n), .ref d1, .ref d2, .ref d3, .ref d4, .int (nI wt), .int isS, .int (nI nr), .int (nI ns), .ref d5, .ref d6, .ref d7, .ref d8, .ref d9, .ref da, .ref db, .int sta, .int nx, .int (nI sp), .int (nI cl2), .int (nI np), .ref dc, .ref dd, .ref de, .int (nI ww), .ref df, .ref dg, .ref dh]))] (fun q w2 => (∃ j : Nat, many = nI j ∧ 1 ≤ j ∧ j ≤ 8 ∧ q = ((1 : Int32)) ∧ w2 = [(md, .inr (5, [.int ((0 : Int32)), .int (nI n), .ref d1, .ref d2, .ref d3, .ref d4, .int (nI j), .int isS, .int (nI nr), .int (nI ns), .ref d5, .ref d6, .ref d7, .ref d8, .ref d9, .ref da, .ref db, .int sta, .int nx, .int (nI sp), .int (nI cl2), .int (nI np), .ref dc, .ref dd, .ref de, .int (nI ww), .ref df, .ref dg, .ref dh]))]) ∨ ((¬ ∃ j, many = nI j ∧ 1 ≤ j ∧ j ≤ 8) ∧ q = ((0 : Int32)) ∧ w2 = [(md, .inr (5, [.int ((0 : Int32)), .int (nI n), .ref d1, .ref d2, .ref d3, .ref d4, .int (nI wt), .int isS, .int (nI nr), .int (nI ns), .ref d5, .ref d6, .ref d7, .ref d8, .ref d9, .ref da, .ref db, .int sta, .int nx, .int (nI sp), .int (nI cl2), .int (nI np), .ref dc, .ref dd, .ref de, .int (nI ww), .ref df, .ref dg, .ref dh]))])) := by
  refine sm_I.mk (by decide) (Nat.le_of_ble_eq_true rfl) ?_
  intro p e s m below meth c A H locs ls hx hb hr ht hown hlocks hml hnm hP hK hD hA hS hN hl
  have hl : lv_has ls 2 [(0, .ref md), (1, .int many)] := hl
  refine lv_aload_n hx hb d_Mod_registers_0 rfl (lv_at hl 0 rfl) ?_
  refine lv_iconst (v := 0) hx hb d_Mod_registers_1 (by decide) ?_
  refine va_put (D := (dC, dI)) (ci := 5) (v := .int ((0 : Int32))) (ty := .int) (C := R_Mod) (T := T_Mod) (N := 29) hx hb ht i_Mod t_Mod t_Mod_ok n_Mod hown hK hP hD hS 0 rfl rfl 0 (by decide) (ht _ mw_606) (fun _ h9 => h9) rfl (by decide +kernel) rfl rfl (Nat.le_of_ble_eq_true rfl) d_Mod_registers_2 (fun H locs hP hD hS => ?_)
  have hP : va_P (dC, dI) smC [(md, .inr (5, [.int ((0 : Int32)), .int (nI n), .ref d1, .ref d2, .ref d3, .ref d4, .int (nI wt), .int isS, .int (nI nr), .int (nI ns), .ref d5, .ref d6, .ref d7, .ref d8, .ref d9, .ref da, .ref db, .int sta, .int nx, .int (nI sp), .int (nI cl2), .int (nI np), .ref dc, .ref dd, .ref de, .int (nI ww), .ref df, .ref dg, .ref dh]))] H := hP
  have hD : va_D A [(md, .inr (5, [.int ((0 : Int32)), .int (nI n), .ref d1, .ref d2, .ref d3, .ref d4, .int (nI wt), .int isS, .int (nI nr), .int (nI ns), .ref d5, .ref d6, .ref d7, .ref d8, .ref d9, .ref da, .ref db, .int sta, .int nx, .int (nI sp), .int (nI cl2), .int (nI np), .ref dc, .ref dd, .ref de, .int (nI ww), .ref df, .ref dg, .ref dh]))] := hD
  refine lv_iload_n hx hb d_Mod_registers_5 rfl (lv_at hl 1 rfl) ?_
  refine lv_iconst (v := 1) hx hb d_Mod_registers_6 (by decide) ?_
  refine lv_bipush (v := 8) hx hb d_Mod_registers_7 (by decide) ?_
  refine sm_goi (wc := []) (wr := [(md, .inr (5, [.int ((0 : Int32)), .int (nI n), .ref d1, .ref d2, .ref d3, .ref d4, .int (nI wt), .int isS, .int (nI nr), .int (nI ns), .ref d5, .ref d6, .ref d7, .ref d8, .ref d9, .ref da, .ref db, .int sta, .int nx, .int (nI sp), .int (nI cl2), .int (nI np), .ref dc, .ref dd, .ref de, .int (nI ww), .ref df, .ref dg, .ref dh]))]) (va_runS (As := [.int many, .int ((1 : Int32)), .int ((8 : Int32))]) (rest := []) ⟨hx, hb, hml, hown, ht⟩ ((c_Mod_within (l := l) (dC := dC) (dI := dI) (cI := cI) (cZ := cZ) (x := many) (lo := (1 : Int32)) (hi := (8 : Int32)) ).at H.size) (sm_cS 3 ht mw_704 mw_6 mw_702 mw_703 rfl rfl (by decide +kernel) ⟨Nat.le_of_ble_eq_true rfl, Nat.le_of_ble_eq_true rfl⟩) (sm_preS hN hK hP hD [] rfl rfl (by decide)) rfl rfl hl.1 rfl (lv_room (Nat.le_of_ble_eq_true rfl)) d_Mod_registers_9 ⟨Nat.zero_le _, Nat.zero_le _⟩) hP hD hS hA [] [0] rfl rfl (by decide) (by decide) (fun r_9 w_9 H locs q_9 hP hD hS => ?_)
  obtain ⟨rfl, rfl⟩ := q_9
  have hP : va_P (dC, dI) smC [(md, .inr (5, [.int ((0 : Int32)), .int (nI n), .ref d1, .ref d2, .ref d3, .ref d4, .int (nI wt), .int isS, .int (nI nr), .int (nI ns), .ref d5, .ref d6, .ref d7, .ref d8, .ref d9, .ref da, .ref db, .int sta, .int nx, .int (nI sp), .int (nI cl2), .int (nI np), .ref dc, .ref dd, .ref de, .int (nI ww), .ref df, .ref dg, .ref dh]))] H := hP
  have hD : va_D A [(md, .inr (5, [.int ((0 : Int32)), .int (nI n), .ref d1, .ref d2, .ref d3, .ref d4, .int (nI wt), .int isS, .int (nI nr), .int (nI ns), .ref d5, .ref d6, .ref d7, .ref d8, .ref d9, .ref da, .ref db, .int sta, .int nx, .int (nI sp), .int (nI cl2), .int (nI np), .ref dc, .ref dd, .ref de, .int (nI ww), .ref df, .ref dg, .ref dh]))] := hD
  refine lv_if_ne (tgt := 17) hx hb d_Mod_registers_12 (by decide) (fun c_12 => ?_) (fun c_12 => ?_)
  · skip
    have e_12 : (wi many ((1 : Int32)) ((8 : Int32))) = true := b2i_ne0 c_12
    refine lv_aload_n hx hb d_Mod_registers_17 rfl (lv_at hl 0 rfl) ?_
    refine lv_iload_n hx hb d_Mod_registers_18 rfl (lv_at hl 1 rfl) ?_
    refine va_put (D := (dC, dI)) (ci := 5) (v := .int many) (ty := .int) (C := R_Mod) (T := T_Mod) (N := 29) hx hb ht i_Mod t_Mod t_Mod_ok n_Mod hown hK hP hD hS 0 rfl rfl 6 (by decide) (ht _ mw_612) (fun _ h9 => h9) rfl (by decide +kernel) rfl rfl (Nat.le_of_ble_eq_true rfl) d_Mod_registers_19 (fun H locs hP hD hS => ?_)
    have hP : va_P (dC, dI) smC [(md, .inr (5, [.int ((0 : Int32)), .int (nI n), .ref d1, .ref d2, .ref d3, .ref d4, .int many, .int isS, .int (nI nr), .int (nI ns), .ref d5, .ref d6, .ref d7, .ref d8, .ref d9, .ref da, .ref db, .int sta, .int nx, .int (nI sp), .int (nI cl2), .int (nI np), .ref dc, .ref dd, .ref de, .int (nI ww), .ref df, .ref dg, .ref dh]))] H := hP
    have hD : va_D A [(md, .inr (5, [.int ((0 : Int32)), .int (nI n), .ref d1, .ref d2, .ref d3, .ref d4, .int many, .int isS, .int (nI nr), .int (nI ns), .ref d5, .ref d6, .ref d7, .ref d8, .ref d9, .ref da, .ref db, .int sta, .int nx, .int (nI sp), .int (nI cl2), .int (nI np), .ref dc, .ref dd, .ref de, .int (nI ww), .ref df, .ref dg, .ref dh]))] := hD
    refine lv_iconst (v := 1) hx hb d_Mod_registers_22 (by decide) ?_
    refine sm_rz (v := (1 : Int32)) (ws := [(md, .inr (5, [.int ((0 : Int32)), .int (nI n), .ref d1, .ref d2, .ref d3, .ref d4, .int many, .int isS, .int (nI nr), .int (nI ns), .ref d5, .ref d6, .ref d7, .ref d8, .ref d9, .ref da, .ref db, .int sta, .int nx, .int (nI sp), .int (nI cl2), .int (nI np), .ref dc, .ref dd, .ref de, .int (nI ww), .ref df, .ref dg, .ref dh]))]) hx hb hr hlocks hK (hP.sub [0] rfl) (hD.sub [0] (by decide) rfl) hS (by decide) ?_ d_Mod_registers_23
    obtain ⟨j, hj, hj1, hj8⟩ := wi_18 e_12
    exact Or.inl ⟨j, hj, hj1, hj8, rfl, by rw [hj]⟩
  · skip
    have e_12 : (wi many ((1 : Int32)) ((8 : Int32))) = false := b2i_eq0 c_12
    refine lv_iconst (v := 0) hx hb d_Mod_registers_15 (by decide) ?_
    refine sm_rz (v := (0 : Int32)) (ws := [(md, .inr (5, [.int ((0 : Int32)), .int (nI n), .ref d1, .ref d2, .ref d3, .ref d4, .int (nI wt), .int isS, .int (nI nr), .int (nI ns), .ref d5, .ref d6, .ref d7, .ref d8, .ref d9, .ref da, .ref db, .int sta, .int nx, .int (nI sp), .int (nI cl2), .int (nI np), .ref dc, .ref dd, .ref de, .int (nI ww), .ref df, .ref dg, .ref dh]))]) hx hb hr hlocks hK (hP.sub [0] rfl) (hD.sub [0] (by decide) rfl) hS (by decide) ?_ d_Mod_registers_16
    exact Or.inr ⟨wi_18n e_12, rfl, rfl⟩
abbrev y_Mod_reads : MethodName := ⟨"ScanMillModel", "reads", "(II)Z"⟩
theorem d_Mod_reads_0 : decode prog_7_method_9_code 0 = .ok (.aload_n 0, 1) := by decide +kernel
theorem d_Mod_reads_1 : decode prog_7_method_9_code 1 = .ok (.getfield 7, 3) := by decide +kernel
theorem d_Mod_reads_4 : decode prog_7_method_9_code 4 = .ok (.iload_n 1, 1) := by decide +kernel
theorem d_Mod_reads_5 : decode prog_7_method_9_code 5 = .ok (.iaload, 1) := by decide +kernel
theorem d_Mod_reads_6 : decode prog_7_method_9_code 6 = .ok (.tableswitch 112 1 10 #[54, 54, 54, 54, 54, 80, 112, 96, 112, 96], 54) := by decide +kernel
theorem d_Mod_reads_60 : decode prog_7_method_9_code 60 = .ok (.aload_n 0, 1) := by decide +kernel
theorem d_Mod_reads_61 : decode prog_7_method_9_code 61 = .ok (.getfield 16, 3) := by decide +kernel
theorem d_Mod_reads_64 : decode prog_7_method_9_code 64 = .ok (.iload_n 1, 1) := by decide +kernel
theorem d_Mod_reads_65 : decode prog_7_method_9_code 65 = .ok (.iaload, 1) := by decide +kernel
theorem d_Mod_reads_66 : decode prog_7_method_9_code 66 = .ok (.iload_n 2, 1) := by decide +kernel
theorem d_Mod_reads_67 : decode prog_7_method_9_code 67 = .ok (.if_icmp .eq 13, 3) := by decide +kernel
theorem d_Mod_reads_80 : decode prog_7_method_9_code 80 = .ok (.iconst 1, 1) := by decide +kernel
theorem d_Mod_reads_81 : decode prog_7_method_9_code 81 = .ok (.goto 4, 3) := by decide +kernel
theorem d_Mod_reads_85 : decode prog_7_method_9_code 85 = .ok (.ireturn, 1) := by decide +kernel
theorem d_Mod_reads_70 : decode prog_7_method_9_code 70 = .ok (.aload_n 0, 1) := by decide +kernel
theorem d_Mod_reads_71 : decode prog_7_method_9_code 71 = .ok (.getfield 19, 3) := by decide +kernel
theorem d_Mod_reads_74 : decode prog_7_method_9_code 74 = .ok (.iload_n 1, 1) := by decide +kernel
theorem d_Mod_reads_75 : decode prog_7_method_9_code 75 = .ok (.iaload, 1) := by decide +kernel
theorem d_Mod_reads_76 : decode prog_7_method_9_code 76 = .ok (.iload_n 2, 1) := by decide +kernel
theorem d_Mod_reads_77 : decode prog_7_method_9_code 77 = .ok (.if_icmp .ne 7, 3) := by decide +kernel
theorem d_Mod_reads_84 : decode prog_7_method_9_code 84 = .ok (.iconst 0, 1) := by decide +kernel
theorem d_Mod_reads_86 : decode prog_7_method_9_code 86 = .ok (.aload_n 0, 1) := by decide +kernel
theorem d_Mod_reads_87 : decode prog_7_method_9_code 87 = .ok (.getfield 16, 3) := by decide +kernel
theorem d_Mod_reads_90 : decode prog_7_method_9_code 90 = .ok (.iload_n 1, 1) := by decide +kernel
theorem d_Mod_reads_91 : decode prog_7_method_9_code 91 = .ok (.iaload, 1) := by decide +kernel
theorem d_Mod_reads_92 : decode prog_7_method_9_code 92 = .ok (.iload_n 2, 1) := by decide +kernel
theorem d_Mod_reads_93 : decode prog_7_method_9_code 93 = .ok (.if_icmp .ne 7, 3) := by decide +kernel
theorem d_Mod_reads_100 : decode prog_7_method_9_code 100 = .ok (.iconst 0, 1) := by decide +kernel
theorem d_Mod_reads_101 : decode prog_7_method_9_code 101 = .ok (.ireturn, 1) := by decide +kernel
theorem d_Mod_reads_96 : decode prog_7_method_9_code 96 = .ok (.iconst 1, 1) := by decide +kernel
theorem d_Mod_reads_97 : decode prog_7_method_9_code 97 = .ok (.goto 4, 3) := by decide +kernel
theorem d_Mod_reads_102 : decode prog_7_method_9_code 102 = .ok (.aload_n 0, 1) := by decide +kernel
theorem d_Mod_reads_103 : decode prog_7_method_9_code 103 = .ok (.getfield 13, 3) := by decide +kernel
theorem d_Mod_reads_106 : decode prog_7_method_9_code 106 = .ok (.iload_n 1, 1) := by decide +kernel
theorem d_Mod_reads_107 : decode prog_7_method_9_code 107 = .ok (.iaload, 1) := by decide +kernel
theorem d_Mod_reads_108 : decode prog_7_method_9_code 108 = .ok (.iload_n 2, 1) := by decide +kernel
theorem d_Mod_reads_109 : decode prog_7_method_9_code 109 = .ok (.if_icmp .ne 7, 3) := by decide +kernel
theorem d_Mod_reads_116 : decode prog_7_method_9_code 116 = .ok (.iconst 0, 1) := by decide +kernel
theorem d_Mod_reads_117 : decode prog_7_method_9_code 117 = .ok (.ireturn, 1) := by decide +kernel
theorem d_Mod_reads_112 : decode prog_7_method_9_code 112 = .ok (.iconst 1, 1) := by decide +kernel
theorem d_Mod_reads_113 : decode prog_7_method_9_code 113 = .ok (.goto 4, 3) := by decide +kernel
theorem d_Mod_reads_118 : decode prog_7_method_9_code 118 = .ok (.iconst 0, 1) := by decide +kernel
theorem d_Mod_reads_119 : decode prog_7_method_9_code 119 = .ok (.ireturn, 1) := by decide +kernel
set_option maxRecDepth 100000 in
set_option maxHeartbeats 4000000 in
theorem c_Mod_reads {l : Launch} {dC : Nat → ClassId} {dI : Nat → Nat → Nat} {cI cZ : ClassId} {md d1 d2 d3 d4 d5 d6 d7 d8 d9 da db dc dd de df dg dh n wt nr ns sp cl2 np ww : Nat} {th isS sta nx : Int32} {fk fa fb fc : Nat → Int32} {t : Nat} {v : Int32} (ht2 : t < 60) : sm_I l y_Mod_reads prog_7_method_9_code 3 (some .boolean) (rmF 0 0) (dC, dI) smC [(cI, .int), (cZ, .boolean)] [.ref md, .int (nI t), .int v] [(md, .inr (5, [.int th, .int (nI n), .ref d1, .ref d2, .ref d3, .ref d4, .int (nI wt), .int isS, .int (nI nr), .int (nI ns), .ref d5, .ref d6, .ref d7, .ref d8, .ref d9, .ref da, .ref db, .int sta, .int nx, .int (nI sp), .int (nI cl2), .int (nI np), .ref dc, .ref dd, .ref de, .int (nI ww), .ref df, .ref dg, .ref dh])), (d1, .inl (cI, 60, .inl fk)), (d2, .inl (cI, 60, .inl fa)), (d3, .inl (cI, 60, .inl fb)), (d4, .inl (cI, 60, .inl fc))] (fun q w2 => q = (b2i (mrd fk fa fb fc t v)) ∧ w2 = [(md, .inr (5, [.int th, .int (nI n), .ref d1, .ref d2, .ref d3, .ref d4, .int (nI wt), .int isS, .int (nI nr), .int (nI ns), .ref d5, .ref d6, .ref d7, .ref d8, .ref d9, .ref da, .ref db, .int sta, .int nx, .int (nI sp), .int (nI cl2), .int (nI np), .ref dc, .ref dd, .ref de, .int (nI ww), .ref df, .ref dg, .ref dh])), (d1, .inl (cI, 60, .inl fk)), (d2, .inl (cI, 60, .inl fa)), (d3, .inl (cI, 60, .inl fb)), (d4, .inl (cI, 60, .inl fc))]) := by
  refine sm_I.mk (by decide) (Nat.le_of_ble_eq_true rfl) ?_
  intro p e s m below meth c A H locs ls hx hb hr ht hown hlocks hml hnm hP hK hD hA hS hN hl
  have hl : lv_has ls 3 [(0, .ref md), (1, .int (nI t)), (2, .int v)] := hl
  refine lv_aload_n hx hb d_Mod_reads_0 rfl (lv_at hl 0 rfl) ?_
  refine va_get (D := (dC, dI)) (ci := 5) (v := .ref d1) (C := R_Mod) (T := T_Mod) (N := 29) hx hb ht i_Mod hown hK hP 0 rfl rfl 2 (by decide) (ht _ mw_608) (fun _ h9 => h9) rfl d_Mod_reads_1 ?_
  refine lv_iload_n hx hb d_Mod_reads_4 rfl (lv_at hl 1 rfl) ?_
  refine sm_iald (j := t) hx hb hK hP 1 0 rfl rfl (vp_in_nI (by first | omega | assumption) (by first | decide | omega)) (nI_clamp (by first | omega | (have := sm_lt31; omega))) d_Mod_reads_5 ?_
  by_cases g_6_60 : (fk t) = 1 ∨ (fk t) = 2 ∨ (fk t) = 3 ∨ (fk t) = 4 ∨ (fk t) = 5
  · skip
    refine sm_tab (tgt := 60) hx hb d_Mod_reads_6 (by rcases g_6_60 with h | h | h | h | h <;> (rw [h]; decide)) ?_
    refine lv_aload_n hx hb d_Mod_reads_60 rfl (lv_at hl 0 rfl) ?_
    refine va_get (D := (dC, dI)) (ci := 5) (v := .ref d3) (C := R_Mod) (T := T_Mod) (N := 29) hx hb ht i_Mod hown hK hP 0 rfl rfl 4 (by decide) (ht _ mw_610) (fun _ h9 => h9) rfl d_Mod_reads_61 ?_
    refine lv_iload_n hx hb d_Mod_reads_64 rfl (lv_at hl 1 rfl) ?_
    refine sm_iald (j := t) hx hb hK hP 3 0 rfl rfl (vp_in_nI (by first | omega | assumption) (by first | decide | omega)) (nI_clamp (by first | omega | (have := sm_lt31; omega))) d_Mod_reads_65 ?_
    refine lv_iload_n hx hb d_Mod_reads_66 rfl (lv_at hl 2 rfl) ?_
    refine lv_icmp_eq (tgt := 80) hx hb d_Mod_reads_67 (by decide) (fun c_67 => ?_) (fun c_67 => ?_)
    · skip
      refine lv_iconst (v := 1) hx hb d_Mod_reads_80 (by decide) ?_
      refine lv_goto (tgt := 85) hx hb d_Mod_reads_81 (by decide) ?_
      refine sm_rz (v := (1 : Int32)) (ws := [(md, .inr (5, [.int th, .int (nI n), .ref d1, .ref d2, .ref d3, .ref d4, .int (nI wt), .int isS, .int (nI nr), .int (nI ns), .ref d5, .ref d6, .ref d7, .ref d8, .ref d9, .ref da, .ref db, .int sta, .int nx, .int (nI sp), .int (nI cl2), .int (nI np), .ref dc, .ref dd, .ref de, .int (nI ww), .ref df, .ref dg, .ref dh])), (d1, .inl (cI, 60, .inl fk)), (d2, .inl (cI, 60, .inl fa)), (d3, .inl (cI, 60, .inl fb)), (d4, .inl (cI, 60, .inl fc))]) hx hb hr hlocks hK (hP.sub [0, 1, 2, 3, 4] rfl) (hD.sub [0, 1, 2, 3, 4] (by decide) rfl) hS (by decide) ?_ d_Mod_reads_85
      exact ⟨by simp only [mrd, if_pos g_6_60] <;> simp [b2i, c_67], rfl⟩
    · skip
      refine lv_aload_n hx hb d_Mod_reads_70 rfl (lv_at hl 0 rfl) ?_
      refine va_get (D := (dC, dI)) (ci := 5) (v := .ref d4) (C := R_Mod) (T := T_Mod) (N := 29) hx hb ht i_Mod hown hK hP 0 rfl rfl 5 (by decide) (ht _ mw_611) (fun _ h9 => h9) rfl d_Mod_reads_71 ?_
      refine lv_iload_n hx hb d_Mod_reads_74 rfl (lv_at hl 1 rfl) ?_
      refine sm_iald (j := t) hx hb hK hP 4 0 rfl rfl (vp_in_nI (by first | omega | assumption) (by first | decide | omega)) (nI_clamp (by first | omega | (have := sm_lt31; omega))) d_Mod_reads_75 ?_
      refine lv_iload_n hx hb d_Mod_reads_76 rfl (lv_at hl 2 rfl) ?_
      refine lv_icmp_ne (tgt := 84) hx hb d_Mod_reads_77 (by decide) (fun c_77 => ?_) (fun c_77 => ?_)
      · skip
        refine lv_iconst (v := 0) hx hb d_Mod_reads_84 (by decide) ?_
        refine sm_rz (v := (0 : Int32)) (ws := [(md, .inr (5, [.int th, .int (nI n), .ref d1, .ref d2, .ref d3, .ref d4, .int (nI wt), .int isS, .int (nI nr), .int (nI ns), .ref d5, .ref d6, .ref d7, .ref d8, .ref d9, .ref da, .ref db, .int sta, .int nx, .int (nI sp), .int (nI cl2), .int (nI np), .ref dc, .ref dd, .ref de, .int (nI ww), .ref df, .ref dg, .ref dh])), (d1, .inl (cI, 60, .inl fk)), (d2, .inl (cI, 60, .inl fa)), (d3, .inl (cI, 60, .inl fb)), (d4, .inl (cI, 60, .inl fc))]) hx hb hr hlocks hK (hP.sub [0, 1, 2, 3, 4] rfl) (hD.sub [0, 1, 2, 3, 4] (by decide) rfl) hS (by decide) ?_ d_Mod_reads_85
        exact ⟨by simp only [mrd, if_pos g_6_60] <;> simp [b2i, c_67, c_77], rfl⟩
      · skip
        refine lv_iconst (v := 1) hx hb d_Mod_reads_80 (by decide) ?_
        refine lv_goto (tgt := 85) hx hb d_Mod_reads_81 (by decide) ?_
        refine sm_rz (v := (1 : Int32)) (ws := [(md, .inr (5, [.int th, .int (nI n), .ref d1, .ref d2, .ref d3, .ref d4, .int (nI wt), .int isS, .int (nI nr), .int (nI ns), .ref d5, .ref d6, .ref d7, .ref d8, .ref d9, .ref da, .ref db, .int sta, .int nx, .int (nI sp), .int (nI cl2), .int (nI np), .ref dc, .ref dd, .ref de, .int (nI ww), .ref df, .ref dg, .ref dh])), (d1, .inl (cI, 60, .inl fk)), (d2, .inl (cI, 60, .inl fa)), (d3, .inl (cI, 60, .inl fb)), (d4, .inl (cI, 60, .inl fc))]) hx hb hr hlocks hK (hP.sub [0, 1, 2, 3, 4] rfl) (hD.sub [0, 1, 2, 3, 4] (by decide) rfl) hS (by decide) ?_ d_Mod_reads_85
        exact ⟨by simp only [mrd, if_pos g_6_60] <;> simp [b2i, c_67, c_77], rfl⟩
  by_cases g_6_86 : (fk t) = 6
  · skip
    refine sm_tab (tgt := 86) hx hb d_Mod_reads_6 (by rw [g_6_86]; decide) ?_
    refine lv_aload_n hx hb d_Mod_reads_86 rfl (lv_at hl 0 rfl) ?_
    refine va_get (D := (dC, dI)) (ci := 5) (v := .ref d3) (C := R_Mod) (T := T_Mod) (N := 29) hx hb ht i_Mod hown hK hP 0 rfl rfl 4 (by decide) (ht _ mw_610) (fun _ h9 => h9) rfl d_Mod_reads_87 ?_
    refine lv_iload_n hx hb d_Mod_reads_90 rfl (lv_at hl 1 rfl) ?_
    refine sm_iald (j := t) hx hb hK hP 3 0 rfl rfl (vp_in_nI (by first | omega | assumption) (by first | decide | omega)) (nI_clamp (by first | omega | (have := sm_lt31; omega))) d_Mod_reads_91 ?_
    refine lv_iload_n hx hb d_Mod_reads_92 rfl (lv_at hl 2 rfl) ?_
    refine lv_icmp_ne (tgt := 100) hx hb d_Mod_reads_93 (by decide) (fun c_93 => ?_) (fun c_93 => ?_)
    · skip
      refine lv_iconst (v := 0) hx hb d_Mod_reads_100 (by decide) ?_
      refine sm_rz (v := (0 : Int32)) (ws := [(md, .inr (5, [.int th, .int (nI n), .ref d1, .ref d2, .ref d3, .ref d4, .int (nI wt), .int isS, .int (nI nr), .int (nI ns), .ref d5, .ref d6, .ref d7, .ref d8, .ref d9, .ref da, .ref db, .int sta, .int nx, .int (nI sp), .int (nI cl2), .int (nI np), .ref dc, .ref dd, .ref de, .int (nI ww), .ref df, .ref dg, .ref dh])), (d1, .inl (cI, 60, .inl fk)), (d2, .inl (cI, 60, .inl fa)), (d3, .inl (cI, 60, .inl fb)), (d4, .inl (cI, 60, .inl fc))]) hx hb hr hlocks hK (hP.sub [0, 1, 2, 3, 4] rfl) (hD.sub [0, 1, 2, 3, 4] (by decide) rfl) hS (by decide) ?_ d_Mod_reads_101
      exact ⟨by simp only [mrd, if_neg g_6_60, if_pos g_6_86] <;> simp [b2i, c_93], rfl⟩
    · skip
      refine lv_iconst (v := 1) hx hb d_Mod_reads_96 (by decide) ?_
      refine lv_goto (tgt := 101) hx hb d_Mod_reads_97 (by decide) ?_
      refine sm_rz (v := (1 : Int32)) (ws := [(md, .inr (5, [.int th, .int (nI n), .ref d1, .ref d2, .ref d3, .ref d4, .int (nI wt), .int isS, .int (nI nr), .int (nI ns), .ref d5, .ref d6, .ref d7, .ref d8, .ref d9, .ref da, .ref db, .int sta, .int nx, .int (nI sp), .int (nI cl2), .int (nI np), .ref dc, .ref dd, .ref de, .int (nI ww), .ref df, .ref dg, .ref dh])), (d1, .inl (cI, 60, .inl fk)), (d2, .inl (cI, 60, .inl fa)), (d3, .inl (cI, 60, .inl fb)), (d4, .inl (cI, 60, .inl fc))]) hx hb hr hlocks hK (hP.sub [0, 1, 2, 3, 4] rfl) (hD.sub [0, 1, 2, 3, 4] (by decide) rfl) hS (by decide) ?_ d_Mod_reads_101
      exact ⟨by simp only [mrd, if_neg g_6_60, if_pos g_6_86] <;> simp [b2i, c_93], rfl⟩
  by_cases g_6_102 : (fk t) = 8 ∨ (fk t) = 10
  · skip
    refine sm_tab (tgt := 102) hx hb d_Mod_reads_6 (by rcases g_6_102 with h | h <;> (rw [h]; decide)) ?_
    refine lv_aload_n hx hb d_Mod_reads_102 rfl (lv_at hl 0 rfl) ?_
    refine va_get (D := (dC, dI)) (ci := 5) (v := .ref d2) (C := R_Mod) (T := T_Mod) (N := 29) hx hb ht i_Mod hown hK hP 0 rfl rfl 3 (by decide) (ht _ mw_609) (fun _ h9 => h9) rfl d_Mod_reads_103 ?_
    refine lv_iload_n hx hb d_Mod_reads_106 rfl (lv_at hl 1 rfl) ?_
    refine sm_iald (j := t) hx hb hK hP 2 0 rfl rfl (vp_in_nI (by first | omega | assumption) (by first | decide | omega)) (nI_clamp (by first | omega | (have := sm_lt31; omega))) d_Mod_reads_107 ?_
    refine lv_iload_n hx hb d_Mod_reads_108 rfl (lv_at hl 2 rfl) ?_
    refine lv_icmp_ne (tgt := 116) hx hb d_Mod_reads_109 (by decide) (fun c_109 => ?_) (fun c_109 => ?_)
    · skip
      refine lv_iconst (v := 0) hx hb d_Mod_reads_116 (by decide) ?_
      refine sm_rz (v := (0 : Int32)) (ws := [(md, .inr (5, [.int th, .int (nI n), .ref d1, .ref d2, .ref d3, .ref d4, .int (nI wt), .int isS, .int (nI nr), .int (nI ns), .ref d5, .ref d6, .ref d7, .ref d8, .ref d9, .ref da, .ref db, .int sta, .int nx, .int (nI sp), .int (nI cl2), .int (nI np), .ref dc, .ref dd, .ref de, .int (nI ww), .ref df, .ref dg, .ref dh])), (d1, .inl (cI, 60, .inl fk)), (d2, .inl (cI, 60, .inl fa)), (d3, .inl (cI, 60, .inl fb)), (d4, .inl (cI, 60, .inl fc))]) hx hb hr hlocks hK (hP.sub [0, 1, 2, 3, 4] rfl) (hD.sub [0, 1, 2, 3, 4] (by decide) rfl) hS (by decide) ?_ d_Mod_reads_117
      exact ⟨by simp only [mrd, if_neg g_6_60, if_neg g_6_86, if_pos g_6_102] <;> simp [b2i, c_109], rfl⟩
    · skip
      refine lv_iconst (v := 1) hx hb d_Mod_reads_112 (by decide) ?_
      refine lv_goto (tgt := 117) hx hb d_Mod_reads_113 (by decide) ?_
      refine sm_rz (v := (1 : Int32)) (ws := [(md, .inr (5, [.int th, .int (nI n), .ref d1, .ref d2, .ref d3, .ref d4, .int (nI wt), .int isS, .int (nI nr), .int (nI ns), .ref d5, .ref d6, .ref d7, .ref d8, .ref d9, .ref da, .ref db, .int sta, .int nx, .int (nI sp), .int (nI cl2), .int (nI np), .ref dc, .ref dd, .ref de, .int (nI ww), .ref df, .ref dg, .ref dh])), (d1, .inl (cI, 60, .inl fk)), (d2, .inl (cI, 60, .inl fa)), (d3, .inl (cI, 60, .inl fb)), (d4, .inl (cI, 60, .inl fc))]) hx hb hr hlocks hK (hP.sub [0, 1, 2, 3, 4] rfl) (hD.sub [0, 1, 2, 3, 4] (by decide) rfl) hS (by decide) ?_ d_Mod_reads_117
      exact ⟨by simp only [mrd, if_neg g_6_60, if_neg g_6_86, if_pos g_6_102] <;> simp [b2i, c_109], rfl⟩
  refine sm_tab (tgt := 118) hx hb d_Mod_reads_6 (sm_tabD [1, 2, 3, 4, 5, 6, 8, 10] ⟨fun z => g_6_60 (Or.inl z), fun z => g_6_60 (Or.inr (Or.inl z)), fun z => g_6_60 (Or.inr (Or.inr (Or.inl z))), fun z => g_6_60 (Or.inr (Or.inr (Or.inr (Or.inl z)))), fun z => g_6_60 (Or.inr (Or.inr (Or.inr (Or.inr (z))))), fun z => g_6_86 (z), fun z => g_6_102 (Or.inl z), fun z => g_6_102 (Or.inr (z)), trivial⟩ (by decide) (by decide)) ?_
  refine lv_iconst (v := 0) hx hb d_Mod_reads_118 (by decide) ?_
  refine sm_rz (v := (0 : Int32)) (ws := [(md, .inr (5, [.int th, .int (nI n), .ref d1, .ref d2, .ref d3, .ref d4, .int (nI wt), .int isS, .int (nI nr), .int (nI ns), .ref d5, .ref d6, .ref d7, .ref d8, .ref d9, .ref da, .ref db, .int sta, .int nx, .int (nI sp), .int (nI cl2), .int (nI np), .ref dc, .ref dd, .ref de, .int (nI ww), .ref df, .ref dg, .ref dh])), (d1, .inl (cI, 60, .inl fk)), (d2, .inl (cI, 60, .inl fa)), (d3, .inl (cI, 60, .inl fb)), (d4, .inl (cI, 60, .inl fc))]) hx hb hr hlocks hK (hP.sub [0, 1, 2, 3, 4] rfl) (hD.sub [0, 1, 2, 3, 4] (by decide) rfl) hS (by decide) ?_ d_Mod_reads_119
  exact ⟨by simp only [mrd, if_neg g_6_60, if_neg g_6_86, if_neg g_6_102] <;> simp [b2i, ], rfl⟩
abbrev y_Mod_sets : MethodName := ⟨"ScanMillModel", "sets", "(II)Z"⟩
theorem d_Mod_sets_0 : decode prog_7_method_10_code 0 = .ok (.aload_n 0, 1) := by decide +kernel
theorem d_Mod_sets_1 : decode prog_7_method_10_code 1 = .ok (.getfield 7, 3) := by decide +kernel
theorem d_Mod_sets_4 : decode prog_7_method_10_code 4 = .ok (.iload_n 1, 1) := by decide +kernel
theorem d_Mod_sets_5 : decode prog_7_method_10_code 5 = .ok (.iaload, 1) := by decide +kernel
theorem d_Mod_sets_6 : decode prog_7_method_10_code 6 = .ok (.bipush 6, 2) := by decide +kernel
theorem d_Mod_sets_8 : decode prog_7_method_10_code 8 = .ok (.if_icmp .le 14, 3) := by decide +kernel
theorem d_Mod_sets_22 : decode prog_7_method_10_code 22 = .ok (.aload_n 0, 1) := by decide +kernel
theorem d_Mod_sets_23 : decode prog_7_method_10_code 23 = .ok (.getfield 13, 3) := by decide +kernel
theorem d_Mod_sets_26 : decode prog_7_method_10_code 26 = .ok (.iload_n 1, 1) := by decide +kernel
theorem d_Mod_sets_27 : decode prog_7_method_10_code 27 = .ok (.iaload, 1) := by decide +kernel
theorem d_Mod_sets_28 : decode prog_7_method_10_code 28 = .ok (.iload_n 2, 1) := by decide +kernel
theorem d_Mod_sets_29 : decode prog_7_method_10_code 29 = .ok (.if_icmp .ne 7, 3) := by decide +kernel
theorem d_Mod_sets_36 : decode prog_7_method_10_code 36 = .ok (.iconst 0, 1) := by decide +kernel
theorem d_Mod_sets_37 : decode prog_7_method_10_code 37 = .ok (.ireturn, 1) := by decide +kernel
theorem d_Mod_sets_32 : decode prog_7_method_10_code 32 = .ok (.iconst 1, 1) := by decide +kernel
theorem d_Mod_sets_33 : decode prog_7_method_10_code 33 = .ok (.goto 4, 3) := by decide +kernel
theorem d_Mod_sets_11 : decode prog_7_method_10_code 11 = .ok (.aload_n 0, 1) := by decide +kernel
theorem d_Mod_sets_12 : decode prog_7_method_10_code 12 = .ok (.getfield 7, 3) := by decide +kernel
theorem d_Mod_sets_15 : decode prog_7_method_10_code 15 = .ok (.iload_n 1, 1) := by decide +kernel
theorem d_Mod_sets_16 : decode prog_7_method_10_code 16 = .ok (.iaload, 1) := by decide +kernel
theorem d_Mod_sets_17 : decode prog_7_method_10_code 17 = .ok (.bipush 9, 2) := by decide +kernel
theorem d_Mod_sets_19 : decode prog_7_method_10_code 19 = .ok (.if_icmp .ne 17, 3) := by decide +kernel
set_option maxRecDepth 100000 in
set_option maxHeartbeats 4000000 in
theorem c_Mod_sets {l : Launch} {dC : Nat → ClassId} {dI : Nat → Nat → Nat} {cI cZ : ClassId} {md d1 d2 d3 d4 d5 d6 d7 d8 d9 da db dc dd de df dg dh n wt nr ns sp cl2 np ww : Nat} {th isS sta nx : Int32} {fk fa : Nat → Int32} {t : Nat} {v : Int32} (ht2 : t < 60) : sm_I l y_Mod_sets prog_7_method_10_code 3 (some .boolean) (rmF 0 0) (dC, dI) smC [(cI, .int), (cZ, .boolean)] [.ref md, .int (nI t), .int v] [(md, .inr (5, [.int th, .int (nI n), .ref d1, .ref d2, .ref d3, .ref d4, .int (nI wt), .int isS, .int (nI nr), .int (nI ns), .ref d5, .ref d6, .ref d7, .ref d8, .ref d9, .ref da, .ref db, .int sta, .int nx, .int (nI sp), .int (nI cl2), .int (nI np), .ref dc, .ref dd, .ref de, .int (nI ww), .ref df, .ref dg, .ref dh])), (d1, .inl (cI, 60, .inl fk)), (d2, .inl (cI, 60, .inl fa))] (fun q w2 => q = (b2i (mst fk fa t v)) ∧ w2 = [(md, .inr (5, [.int th, .int (nI n), .ref d1, .ref d2, .ref d3, .ref d4, .int (nI wt), .int isS, .int (nI nr), .int (nI ns), .ref d5, .ref d6, .ref d7, .ref d8, .ref d9, .ref da, .ref db, .int sta, .int nx, .int (nI sp), .int (nI cl2), .int (nI np), .ref dc, .ref dd, .ref de, .int (nI ww), .ref df, .ref dg, .ref dh])), (d1, .inl (cI, 60, .inl fk)), (d2, .inl (cI, 60, .inl fa))]) := by
  refine sm_I.mk (by decide) (Nat.le_of_ble_eq_true rfl) ?_
  intro p e s m below meth c A H locs ls hx hb hr ht hown hlocks hml hnm hP hK hD hA hS hN hl
  have hl : lv_has ls 3 [(0, .ref md), (1, .int (nI t)), (2, .int v)] := hl
  refine lv_aload_n hx hb d_Mod_sets_0 rfl (lv_at hl 0 rfl) ?_
  refine va_get (D := (dC, dI)) (ci := 5) (v := .ref d1) (C := R_Mod) (T := T_Mod) (N := 29) hx hb ht i_Mod hown hK hP 0 rfl rfl 2 (by decide) (ht _ mw_608) (fun _ h9 => h9) rfl d_Mod_sets_1 ?_
  refine lv_iload_n hx hb d_Mod_sets_4 rfl (lv_at hl 1 rfl) ?_
  refine sm_iald (j := t) hx hb hK hP 1 0 rfl rfl (vp_in_nI (by first | omega | assumption) (by first | decide | omega)) (nI_clamp (by first | omega | (have := sm_lt31; omega))) d_Mod_sets_5 ?_
  refine lv_bipush (v := 6) hx hb d_Mod_sets_6 (by decide) ?_
  refine lv_icmp_le (tgt := 22) hx hb d_Mod_sets_8 (by decide) (fun c_8 => ?_) (fun c_8 => ?_)
  · skip
    refine lv_aload_n hx hb d_Mod_sets_22 rfl (lv_at hl 0 rfl) ?_
    refine va_get (D := (dC, dI)) (ci := 5) (v := .ref d2) (C := R_Mod) (T := T_Mod) (N := 29) hx hb ht i_Mod hown hK hP 0 rfl rfl 3 (by decide) (ht _ mw_609) (fun _ h9 => h9) rfl d_Mod_sets_23 ?_
    refine lv_iload_n hx hb d_Mod_sets_26 rfl (lv_at hl 1 rfl) ?_
    refine sm_iald (j := t) hx hb hK hP 2 0 rfl rfl (vp_in_nI (by first | omega | assumption) (by first | decide | omega)) (nI_clamp (by first | omega | (have := sm_lt31; omega))) d_Mod_sets_27 ?_
    refine lv_iload_n hx hb d_Mod_sets_28 rfl (lv_at hl 2 rfl) ?_
    refine lv_icmp_ne (tgt := 36) hx hb d_Mod_sets_29 (by decide) (fun c_29 => ?_) (fun c_29 => ?_)
    · skip
      refine lv_iconst (v := 0) hx hb d_Mod_sets_36 (by decide) ?_
      refine sm_rz (v := (0 : Int32)) (ws := [(md, .inr (5, [.int th, .int (nI n), .ref d1, .ref d2, .ref d3, .ref d4, .int (nI wt), .int isS, .int (nI nr), .int (nI ns), .ref d5, .ref d6, .ref d7, .ref d8, .ref d9, .ref da, .ref db, .int sta, .int nx, .int (nI sp), .int (nI cl2), .int (nI np), .ref dc, .ref dd, .ref de, .int (nI ww), .ref df, .ref dg, .ref dh])), (d1, .inl (cI, 60, .inl fk)), (d2, .inl (cI, 60, .inl fa))]) hx hb hr hlocks hK (hP.sub [0, 1, 2] rfl) (hD.sub [0, 1, 2] (by decide) rfl) hS (by decide) ?_ d_Mod_sets_37
      exact ⟨by simp [mst, b2i, c_8, c_29], rfl⟩
    · skip
      refine lv_iconst (v := 1) hx hb d_Mod_sets_32 (by decide) ?_
      refine lv_goto (tgt := 37) hx hb d_Mod_sets_33 (by decide) ?_
      refine sm_rz (v := (1 : Int32)) (ws := [(md, .inr (5, [.int th, .int (nI n), .ref d1, .ref d2, .ref d3, .ref d4, .int (nI wt), .int isS, .int (nI nr), .int (nI ns), .ref d5, .ref d6, .ref d7, .ref d8, .ref d9, .ref da, .ref db, .int sta, .int nx, .int (nI sp), .int (nI cl2), .int (nI np), .ref dc, .ref dd, .ref de, .int (nI ww), .ref df, .ref dg, .ref dh])), (d1, .inl (cI, 60, .inl fk)), (d2, .inl (cI, 60, .inl fa))]) hx hb hr hlocks hK (hP.sub [0, 1, 2] rfl) (hD.sub [0, 1, 2] (by decide) rfl) hS (by decide) ?_ d_Mod_sets_37
      exact ⟨by simp [mst, b2i, c_8, c_29], rfl⟩
  · skip
    refine lv_aload_n hx hb d_Mod_sets_11 rfl (lv_at hl 0 rfl) ?_
    refine va_get (D := (dC, dI)) (ci := 5) (v := .ref d1) (C := R_Mod) (T := T_Mod) (N := 29) hx hb ht i_Mod hown hK hP 0 rfl rfl 2 (by decide) (ht _ mw_608) (fun _ h9 => h9) rfl d_Mod_sets_12 ?_
    refine lv_iload_n hx hb d_Mod_sets_15 rfl (lv_at hl 1 rfl) ?_
    refine sm_iald (j := t) hx hb hK hP 1 0 rfl rfl (vp_in_nI (by first | omega | assumption) (by first | decide | omega)) (nI_clamp (by first | omega | (have := sm_lt31; omega))) d_Mod_sets_16 ?_
    refine lv_bipush (v := 9) hx hb d_Mod_sets_17 (by decide) ?_
    refine lv_icmp_ne (tgt := 36) hx hb d_Mod_sets_19 (by decide) (fun c_19 => ?_) (fun c_19 => ?_)
    · skip
      refine lv_iconst (v := 0) hx hb d_Mod_sets_36 (by decide) ?_
      refine sm_rz (v := (0 : Int32)) (ws := [(md, .inr (5, [.int th, .int (nI n), .ref d1, .ref d2, .ref d3, .ref d4, .int (nI wt), .int isS, .int (nI nr), .int (nI ns), .ref d5, .ref d6, .ref d7, .ref d8, .ref d9, .ref da, .ref db, .int sta, .int nx, .int (nI sp), .int (nI cl2), .int (nI np), .ref dc, .ref dd, .ref de, .int (nI ww), .ref df, .ref dg, .ref dh])), (d1, .inl (cI, 60, .inl fk)), (d2, .inl (cI, 60, .inl fa))]) hx hb hr hlocks hK (hP.sub [0, 1, 2] rfl) (hD.sub [0, 1, 2] (by decide) rfl) hS (by decide) ?_ d_Mod_sets_37
      exact ⟨by simp [mst, b2i, c_8, c_19], rfl⟩
    · skip
      refine lv_aload_n hx hb d_Mod_sets_22 rfl (lv_at hl 0 rfl) ?_
      refine va_get (D := (dC, dI)) (ci := 5) (v := .ref d2) (C := R_Mod) (T := T_Mod) (N := 29) hx hb ht i_Mod hown hK hP 0 rfl rfl 3 (by decide) (ht _ mw_609) (fun _ h9 => h9) rfl d_Mod_sets_23 ?_
      refine lv_iload_n hx hb d_Mod_sets_26 rfl (lv_at hl 1 rfl) ?_
      refine sm_iald (j := t) hx hb hK hP 2 0 rfl rfl (vp_in_nI (by first | omega | assumption) (by first | decide | omega)) (nI_clamp (by first | omega | (have := sm_lt31; omega))) d_Mod_sets_27 ?_
      refine lv_iload_n hx hb d_Mod_sets_28 rfl (lv_at hl 2 rfl) ?_
      refine lv_icmp_ne (tgt := 36) hx hb d_Mod_sets_29 (by decide) (fun c_29 => ?_) (fun c_29 => ?_)
      · skip
        refine lv_iconst (v := 0) hx hb d_Mod_sets_36 (by decide) ?_
        refine sm_rz (v := (0 : Int32)) (ws := [(md, .inr (5, [.int th, .int (nI n), .ref d1, .ref d2, .ref d3, .ref d4, .int (nI wt), .int isS, .int (nI nr), .int (nI ns), .ref d5, .ref d6, .ref d7, .ref d8, .ref d9, .ref da, .ref db, .int sta, .int nx, .int (nI sp), .int (nI cl2), .int (nI np), .ref dc, .ref dd, .ref de, .int (nI ww), .ref df, .ref dg, .ref dh])), (d1, .inl (cI, 60, .inl fk)), (d2, .inl (cI, 60, .inl fa))]) hx hb hr hlocks hK (hP.sub [0, 1, 2] rfl) (hD.sub [0, 1, 2] (by decide) rfl) hS (by decide) ?_ d_Mod_sets_37
        exact ⟨by simp [mst, b2i, c_8, c_19, c_29], rfl⟩
      · skip
        refine lv_iconst (v := 1) hx hb d_Mod_sets_32 (by decide) ?_
        refine lv_goto (tgt := 37) hx hb d_Mod_sets_33 (by decide) ?_
        refine sm_rz (v := (1 : Int32)) (ws := [(md, .inr (5, [.int th, .int (nI n), .ref d1, .ref d2, .ref d3, .ref d4, .int (nI wt), .int isS, .int (nI nr), .int (nI ns), .ref d5, .ref d6, .ref d7, .ref d8, .ref d9, .ref da, .ref db, .int sta, .int nx, .int (nI sp), .int (nI cl2), .int (nI np), .ref dc, .ref dd, .ref de, .int (nI ww), .ref df, .ref dg, .ref dh])), (d1, .inl (cI, 60, .inl fk)), (d2, .inl (cI, 60, .inl fa))]) hx hb hr hlocks hK (hP.sub [0, 1, 2] rfl) (hD.sub [0, 1, 2] (by decide) rfl) hS (by decide) ?_ d_Mod_sets_37
        exact ⟨by simp [mst, b2i, c_8, c_19, c_29], rfl⟩
abbrev y_Mod_goTo : MethodName := ⟨"ScanMillModel", "goTo", "(I)V"⟩
theorem d_Mod_goTo_0 : decode prog_7_method_11_code 0 = .ok (.iload_n 1, 1) := by decide +kernel
theorem d_Mod_goTo_1 : decode prog_7_method_11_code 1 = .ok (.aload_n 0, 1) := by decide +kernel
theorem d_Mod_goTo_2 : decode prog_7_method_11_code 2 = .ok (.getfield 80, 3) := by decide +kernel
theorem d_Mod_goTo_5 : decode prog_7_method_11_code 5 = .ok (.if_icmp .ge 12, 3) := by decide +kernel
theorem d_Mod_goTo_17 : decode prog_7_method_11_code 17 = .ok (.return_, 1) := by decide +kernel
theorem d_Mod_goTo_8 : decode prog_7_method_11_code 8 = .ok (.aload_n 0, 1) := by decide +kernel
theorem d_Mod_goTo_9 : decode prog_7_method_11_code 9 = .ok (.getfield 60, 3) := by decide +kernel
theorem mw_633 : Cond.fieldLink "ScanMillModel" 60 "ScanMillModel" "seen" "[Z" ∈ wG := wG_t 633 (by decide +kernel) (by decide +kernel)
theorem d_Mod_goTo_12 : decode prog_7_method_11_code 12 = .ok (.iload_n 1, 1) := by decide +kernel
theorem d_Mod_goTo_13 : decode prog_7_method_11_code 13 = .ok (.baload, 1) := by decide +kernel
theorem d_Mod_goTo_14 : decode prog_7_method_11_code 14 = .ok (.ifCond .eq 4, 3) := by decide +kernel
theorem d_Mod_goTo_18 : decode prog_7_method_11_code 18 = .ok (.aload_n 0, 1) := by decide +kernel
theorem d_Mod_goTo_19 : decode prog_7_method_11_code 19 = .ok (.getfield 60, 3) := by decide +kernel
theorem d_Mod_goTo_22 : decode prog_7_method_11_code 22 = .ok (.iload_n 1, 1) := by decide +kernel
theorem d_Mod_goTo_23 : decode prog_7_method_11_code 23 = .ok (.iconst 1, 1) := by decide +kernel
theorem d_Mod_goTo_24 : decode prog_7_method_11_code 24 = .ok (.bastore, 1) := by decide +kernel
theorem d_Mod_goTo_25 : decode prog_7_method_11_code 25 = .ok (.aload_n 0, 1) := by decide +kernel
theorem d_Mod_goTo_26 : decode prog_7_method_11_code 26 = .ok (.getfield 57, 3) := by decide +kernel
theorem mw_632 : Cond.fieldLink "ScanMillModel" 57 "ScanMillModel" "way" "[I" ∈ wG := wG_t 632 (by decide +kernel) (by decide +kernel)
theorem d_Mod_goTo_29 : decode prog_7_method_11_code 29 = .ok (.aload_n 0, 1) := by decide +kernel
theorem d_Mod_goTo_30 : decode prog_7_method_11_code 30 = .ok (.getfield 90, 3) := by decide +kernel
theorem mw_631 : Cond.fieldLink "ScanMillModel" 90 "ScanMillModel" "ways" "I" ∈ wG := wG_t 631 (by decide +kernel) (by decide +kernel)
theorem d_Mod_goTo_33 : decode prog_7_method_11_code 33 = .ok (.iload_n 1, 1) := by decide +kernel
theorem d_Mod_goTo_34 : decode prog_7_method_11_code 34 = .ok (.iastore, 1) := by decide +kernel
theorem d_Mod_goTo_35 : decode prog_7_method_11_code 35 = .ok (.aload_n 0, 1) := by decide +kernel
theorem d_Mod_goTo_36 : decode prog_7_method_11_code 36 = .ok (.dup, 1) := by decide +kernel
theorem d_Mod_goTo_37 : decode prog_7_method_11_code 37 = .ok (.getfield 90, 3) := by decide +kernel
theorem d_Mod_goTo_40 : decode prog_7_method_11_code 40 = .ok (.iconst 1, 1) := by decide +kernel
theorem d_Mod_goTo_41 : decode prog_7_method_11_code 41 = .ok (.iadd, 1) := by decide +kernel
theorem d_Mod_goTo_42 : decode prog_7_method_11_code 42 = .ok (.putfield 90, 3) := by decide +kernel
theorem d_Mod_goTo_45 : decode prog_7_method_11_code 45 = .ok (.return_, 1) := by decide +kernel
set_option maxRecDepth 100000 in
set_option maxHeartbeats 4000000 in
theorem c_Mod_goTo {l : Launch} {dC : Nat → ClassId} {dI : Nat → Nat → Nat} {cI cZ : ClassId} {md d1 d2 d3 d4 d5 d6 d7 d8 d9 da db dc dd de df dg dh n wt nr ns sp cl2 np ww : Nat} {th isS sta nx : Int32} {wy sn : Nat → Int32} {u : Nat} (hn : n ≤ 60) (hu : u < 61) (hww : u < n → sn u = 0 → ww < 61) : sm_V l y_Mod_goTo prog_7_method_11_code 2 none (rmF 0 0) (dC, dI) smC [(cI, .int), (cZ, .boolean)] [.ref md, .int (nI u)] [(md, .inr (5, [.int th, .int (nI n), .ref d1, .ref d2, .ref d3, .ref d4, .int (nI wt), .int isS, .int (nI nr), .int (nI ns), .ref d5, .ref d6, .ref d7, .ref d8, .ref d9, .ref da, .ref db, .int sta, .int nx, .int (nI sp), .int (nI cl2), .int (nI np), .ref dc, .ref dd, .ref de, .int (nI ww), .ref df, .ref dg, .ref dh])), (df, .inl (cI, 61, .inl wy)), (dg, .inl (cZ, 61, .inl sn))] (fun w2 => w2 = [(md, .inr (5, [.int th, .int (nI n), .ref d1, .ref d2, .ref d3, .ref d4, .int (nI wt), .int isS, .int (nI nr), .int (nI ns), .ref d5, .ref d6, .ref d7, .ref d8, .ref d9, .ref da, .ref db, .int sta, .int nx, .int (nI sp), .int (nI cl2), .int (nI np), .ref dc, .ref dd, .ref de, .int (nI ((gtS n ww wy sn u).1)), .ref df, .ref dg, .ref dh])), (df, .inl (cI, 61, .inl ((gtS n ww wy sn u).2.1))), (dg, .inl (cZ, 61, .inl ((gtS n ww wy sn u).2.2)))]) := by
  refine sm_V.mk (by decide) (Nat.le_of_ble_eq_true rfl) ?_
  intro p e s m below meth c A H locs ls hx hb hr ht hown hlocks hml hnm hP hK hD hA hS hN hl
  have hl : lv_has ls 2 [(0, .ref md), (1, .int (nI u))] := hl
  refine lv_iload_n hx hb d_Mod_goTo_0 rfl (lv_at hl 1 rfl) ?_
  refine lv_aload_n hx hb d_Mod_goTo_1 rfl (lv_at hl 0 rfl) ?_
  refine va_get (D := (dC, dI)) (ci := 5) (v := .int (nI n)) (C := R_Mod) (T := T_Mod) (N := 29) hx hb ht i_Mod hown hK hP 0 rfl rfl 1 (by decide) (ht _ mw_607) (fun _ h9 => h9) rfl d_Mod_goTo_2 ?_
  refine lv_icmp_ge (tgt := 17) hx hb d_Mod_goTo_5 (by decide) (fun c_5 => ?_) (fun c_5 => ?_)
  · skip
    have f_5 : n ≤ u := (nI_leI (a := n) (b := u) (by first | omega | decide) (by first | omega | decide)).mp c_5
    refine sm_rv (ws := [(md, .inr (5, [.int th, .int (nI n), .ref d1, .ref d2, .ref d3, .ref d4, .int (nI wt), .int isS, .int (nI nr), .int (nI ns), .ref d5, .ref d6, .ref d7, .ref d8, .ref d9, .ref da, .ref db, .int sta, .int nx, .int (nI sp), .int (nI cl2), .int (nI np), .ref dc, .ref dd, .ref de, .int (nI ww), .ref df, .ref dg, .ref dh])), (df, .inl (cI, 61, .inl wy)), (dg, .inl (cZ, 61, .inl sn))]) hx hb hr hlocks hK (hP.sub [0, 1, 2] rfl) (hD.sub [0, 1, 2] (by decide) rfl) hS ?_ d_Mod_goTo_17
    show _ = _
    rw [gtS, if_neg (fun z => by omega)]
  · skip
    have f_5 : ¬ n ≤ u := fun z => c_5 ((nI_leI (a := n) (b := u) (by first | omega | decide) (by first | omega | decide)).mpr z)
    refine lv_aload_n hx hb d_Mod_goTo_8 rfl (lv_at hl 0 rfl) ?_
    refine va_get (D := (dC, dI)) (ci := 5) (v := .ref dg) (C := R_Mod) (T := T_Mod) (N := 29) hx hb ht i_Mod hown hK hP 0 rfl rfl 27 (by decide) (ht _ mw_633) (fun _ h9 => h9) rfl d_Mod_goTo_9 ?_
    refine lv_iload_n hx hb d_Mod_goTo_12 rfl (lv_at hl 1 rfl) ?_
    refine sm_zald (j := u) hx hb hK hP 2 1 rfl rfl (vp_in_nI (by first | omega | assumption) (by first | decide | omega)) (nI_clamp (by first | omega | (have := sm_lt31; omega))) d_Mod_goTo_13 ?_
    refine lv_if_eq (tgt := 18) hx hb d_Mod_goTo_14 (by decide) (fun c_14 => ?_) (fun c_14 => ?_)
    · skip
      have hw2 : ww < 61 := hww (by omega) c_14
      refine lv_aload_n hx hb d_Mod_goTo_18 rfl (lv_at hl 0 rfl) ?_
      refine va_get (D := (dC, dI)) (ci := 5) (v := .ref dg) (C := R_Mod) (T := T_Mod) (N := 29) hx hb ht i_Mod hown hK hP 0 rfl rfl 27 (by decide) (ht _ mw_633) (fun _ h9 => h9) rfl d_Mod_goTo_19 ?_
      refine lv_iload_n hx hb d_Mod_goTo_22 rfl (lv_at hl 1 rfl) ?_
      refine lv_iconst (v := 1) hx hb d_Mod_goTo_23 (by decide) ?_
      refine sm_zast (j := u) hx hb hK hP hD hS 2 1 rfl rfl (vp_in_nI (by first | omega | assumption) (by first | decide | omega)) (nI_clamp (by first | omega | (have := sm_lt31; omega))) (by decide) d_Mod_goTo_24 (fun H locs hP hD hS => ?_)
      have hP : va_P (dC, dI) smC [(md, .inr (5, [.int th, .int (nI n), .ref d1, .ref d2, .ref d3, .ref d4, .int (nI wt), .int isS, .int (nI nr), .int (nI ns), .ref d5, .ref d6, .ref d7, .ref d8, .ref d9, .ref da, .ref db, .int sta, .int nx, .int (nI sp), .int (nI cl2), .int (nI np), .ref dc, .ref dd, .ref de, .int (nI ww), .ref df, .ref dg, .ref dh])), (df, .inl (cI, 61, .inl wy)), (dg, .inl (cZ, 61, .inl (upd sn u ((1 : Int32)))))] H := hP
      have hD : va_D A [(md, .inr (5, [.int th, .int (nI n), .ref d1, .ref d2, .ref d3, .ref d4, .int (nI wt), .int isS, .int (nI nr), .int (nI ns), .ref d5, .ref d6, .ref d7, .ref d8, .ref d9, .ref da, .ref db, .int sta, .int nx, .int (nI sp), .int (nI cl2), .int (nI np), .ref dc, .ref dd, .ref de, .int (nI ww), .ref df, .ref dg, .ref dh])), (df, .inl (cI, 61, .inl wy)), (dg, .inl (cZ, 61, .inl (upd sn u ((1 : Int32)))))] := hD
      refine lv_aload_n hx hb d_Mod_goTo_25 rfl (lv_at hl 0 rfl) ?_
      refine va_get (D := (dC, dI)) (ci := 5) (v := .ref df) (C := R_Mod) (T := T_Mod) (N := 29) hx hb ht i_Mod hown hK hP 0 rfl rfl 26 (by decide) (ht _ mw_632) (fun _ h9 => h9) rfl d_Mod_goTo_26 ?_
      refine lv_aload_n hx hb d_Mod_goTo_29 rfl (lv_at hl 0 rfl) ?_
      refine va_get (D := (dC, dI)) (ci := 5) (v := .int (nI ww)) (C := R_Mod) (T := T_Mod) (N := 29) hx hb ht i_Mod hown hK hP 0 rfl rfl 25 (by decide) (ht _ mw_631) (fun _ h9 => h9) rfl d_Mod_goTo_30 ?_
      refine lv_iload_n hx hb d_Mod_goTo_33 rfl (lv_at hl 1 rfl) ?_
      refine sm_iast (j := ww) hx hb hK hP hD hS 1 0 rfl rfl (vp_in_nI (by first | omega | assumption) (by first | decide | omega)) (nI_clamp (by first | omega | (have := sm_lt31; omega))) d_Mod_goTo_34 (fun H locs hP hD hS => ?_)
      have hP : va_P (dC, dI) smC [(md, .inr (5, [.int th, .int (nI n), .ref d1, .ref d2, .ref d3, .ref d4, .int (nI wt), .int isS, .int (nI nr), .int (nI ns), .ref d5, .ref d6, .ref d7, .ref d8, .ref d9, .ref da, .ref db, .int sta, .int nx, .int (nI sp), .int (nI cl2), .int (nI np), .ref dc, .ref dd, .ref de, .int (nI ww), .ref df, .ref dg, .ref dh])), (df, .inl (cI, 61, .inl (upd wy ww (nI u)))), (dg, .inl (cZ, 61, .inl (upd sn u ((1 : Int32)))))] H := hP
      have hD : va_D A [(md, .inr (5, [.int th, .int (nI n), .ref d1, .ref d2, .ref d3, .ref d4, .int (nI wt), .int isS, .int (nI nr), .int (nI ns), .ref d5, .ref d6, .ref d7, .ref d8, .ref d9, .ref da, .ref db, .int sta, .int nx, .int (nI sp), .int (nI cl2), .int (nI np), .ref dc, .ref dd, .ref de, .int (nI ww), .ref df, .ref dg, .ref dh])), (df, .inl (cI, 61, .inl (upd wy ww (nI u)))), (dg, .inl (cZ, 61, .inl (upd sn u ((1 : Int32)))))] := hD
      refine lv_aload_n hx hb d_Mod_goTo_35 rfl (lv_at hl 0 rfl) ?_
      refine lv_dup hx hb d_Mod_goTo_36 rfl ?_
      refine va_get (D := (dC, dI)) (ci := 5) (v := .int (nI ww)) (C := R_Mod) (T := T_Mod) (N := 29) hx hb ht i_Mod hown hK hP 0 rfl rfl 25 (by decide) (ht _ mw_631) (fun _ h9 => h9) rfl d_Mod_goTo_37 ?_
      refine lv_iconst (v := 1) hx hb d_Mod_goTo_40 (by decide) ?_
      refine lv_iadd hx hb d_Mod_goTo_41 ?_
      refine sm_re (nI_add ww 1) ?_
      refine va_put (D := (dC, dI)) (ci := 5) (v := .int (nI (ww + 1))) (ty := .int) (C := R_Mod) (T := T_Mod) (N := 29) hx hb ht i_Mod t_Mod t_Mod_ok n_Mod hown hK hP hD hS 0 rfl rfl 25 (by decide) (ht _ mw_631) (fun _ h9 => h9) rfl (by decide +kernel) rfl rfl (Nat.le_of_ble_eq_true rfl) d_Mod_goTo_42 (fun H locs hP hD hS => ?_)
      have hP : va_P (dC, dI) smC [(md, .inr (5, [.int th, .int (nI n), .ref d1, .ref d2, .ref d3, .ref d4, .int (nI wt), .int isS, .int (nI nr), .int (nI ns), .ref d5, .ref d6, .ref d7, .ref d8, .ref d9, .ref da, .ref db, .int sta, .int nx, .int (nI sp), .int (nI cl2), .int (nI np), .ref dc, .ref dd, .ref de, .int (nI (ww + 1)), .ref df, .ref dg, .ref dh])), (df, .inl (cI, 61, .inl (upd wy ww (nI u)))), (dg, .inl (cZ, 61, .inl (upd sn u ((1 : Int32)))))] H := hP
      have hD : va_D A [(md, .inr (5, [.int th, .int (nI n), .ref d1, .ref d2, .ref d3, .ref d4, .int (nI wt), .int isS, .int (nI nr), .int (nI ns), .ref d5, .ref d6, .ref d7, .ref d8, .ref d9, .ref da, .ref db, .int sta, .int nx, .int (nI sp), .int (nI cl2), .int (nI np), .ref dc, .ref dd, .ref de, .int (nI (ww + 1)), .ref df, .ref dg, .ref dh])), (df, .inl (cI, 61, .inl (upd wy ww (nI u)))), (dg, .inl (cZ, 61, .inl (upd sn u ((1 : Int32)))))] := hD
      refine sm_rv (ws := [(md, .inr (5, [.int th, .int (nI n), .ref d1, .ref d2, .ref d3, .ref d4, .int (nI wt), .int isS, .int (nI nr), .int (nI ns), .ref d5, .ref d6, .ref d7, .ref d8, .ref d9, .ref da, .ref db, .int sta, .int nx, .int (nI sp), .int (nI cl2), .int (nI np), .ref dc, .ref dd, .ref de, .int (nI (ww + 1)), .ref df, .ref dg, .ref dh])), (df, .inl (cI, 61, .inl (upd wy ww (nI u)))), (dg, .inl (cZ, 61, .inl (upd sn u ((1 : Int32)))))]) hx hb hr hlocks hK (hP.sub [0, 1, 2] rfl) (hD.sub [0, 1, 2] (by decide) rfl) hS ?_ d_Mod_goTo_45
      show _ = _
      rw [gtS, if_pos ⟨by omega, c_14⟩]
    · skip
      refine sm_rv (ws := [(md, .inr (5, [.int th, .int (nI n), .ref d1, .ref d2, .ref d3, .ref d4, .int (nI wt), .int isS, .int (nI nr), .int (nI ns), .ref d5, .ref d6, .ref d7, .ref d8, .ref d9, .ref da, .ref db, .int sta, .int nx, .int (nI sp), .int (nI cl2), .int (nI np), .ref dc, .ref dd, .ref de, .int (nI ww), .ref df, .ref dg, .ref dh])), (df, .inl (cI, 61, .inl wy)), (dg, .inl (cZ, 61, .inl sn))]) hx hb hr hlocks hK (hP.sub [0, 1, 2] rfl) (hD.sub [0, 1, 2] (by decide) rfl) hS ?_ d_Mod_goTo_17
      show _ = _
      rw [gtS, if_neg (fun z => c_14 z.2)]
