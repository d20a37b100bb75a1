abbrev y_Arr_fill : MethodName := ⟨"java/util/Arrays", "fill", "([II)V"⟩
theorem d_Arr_fill_0 : decode prog_15_method_103_code 0 = .ok (.iconst 0, 1) := by decide +kernel
theorem d_Arr_fill_1 : decode prog_15_method_103_code 1 = .ok (.istore_n 2, 1) := by decide +kernel
theorem d_Arr_fill_2 : decode prog_15_method_103_code 2 = .ok (.aload_n 0, 1) := by decide +kernel
theorem d_Arr_fill_3 : decode prog_15_method_103_code 3 = .ok (.arraylength, 1) := by decide +kernel
theorem d_Arr_fill_4 : decode prog_15_method_103_code 4 = .ok (.istore_n 3, 1) := by decide +kernel
theorem d_Arr_fill_5 : decode prog_15_method_103_code 5 = .ok (.iload_n 2, 1) := by decide +kernel
theorem d_Arr_fill_6 : decode prog_15_method_103_code 6 = .ok (.iload_n 3, 1) := by decide +kernel
theorem d_Arr_fill_7 : decode prog_15_method_103_code 7 = .ok (.if_icmp .ge 13, 3) := by decide +kernel
theorem d_Arr_fill_20 : decode prog_15_method_103_code 20 = .ok (.return_, 1) := by decide +kernel
theorem d_Arr_fill_10 : decode prog_15_method_103_code 10 = .ok (.aload_n 0, 1) := by decide +kernel
theorem d_Arr_fill_11 : decode prog_15_method_103_code 11 = .ok (.iload_n 2, 1) := by decide +kernel
theorem d_Arr_fill_12 : decode prog_15_method_103_code 12 = .ok (.iload_n 1, 1) := by decide +kernel
theorem d_Arr_fill_13 : decode prog_15_method_103_code 13 = .ok (.iastore, 1) := by decide +kernel
theorem d_Arr_fill_14 : decode prog_15_method_103_code 14 = .ok (.iinc 2 1, 3) := by decide +kernel
theorem d_Arr_fill_17 : decode prog_15_method_103_code 17 = .ok (.goto (-12), 3) := by decide +kernel
set_option maxRecDepth 100000 in
set_option maxHeartbeats 4000000 in
theorem c_Arr_fill {l : Launch} {dC : Nat → ClassId} {dI : Nat → Nat → Nat} {cI cZ : ClassId} {x len : Nat} {f : Nat → Int32} {u : Int32} (hlen : len < 2 ^ 31) : sm_V l y_Arr_fill prog_15_method_103_code 4 none (rmF 0 0) (dC, dI) smC [(cI, .int), (cZ, .boolean)] [.ref x, .int u] [(x, .inl (cI, len, .inl f))] (fun w2 => w2 = [(x, .inl (cI, len, .inl (fun _ => u)))]) := by
  refine sm_V.mk (by decide) (Nat.le_of_ble_eq_true rfl) ?_
  intro p e s m below meth c A H locs ls hx hb hr ht hown hlocks hml hnm hP hK hD hA hS hN hl
  have hl : lv_has ls 4 [(0, .ref x), (1, .int u)] := hl
  refine lv_iconst (v := 0) hx hb d_Arr_fill_0 (by decide) ?_
  refine lv_istore_n (lv' := [(2, .int ((0 : Int32))), (0, .ref x), (1, .int u)]) hx hb d_Arr_fill_1 rfl hl (by decide) rfl (fun ls hl => ?_)
  refine lv_aload_n hx hb d_Arr_fill_2 rfl (lv_at hl 1 rfl) ?_
  refine va_alen (v := nI len) hx hb hK hP 0 0 rfl rfl rfl d_Arr_fill_3 ?_
  refine lv_istore_n (lv' := [(3, .int (nI len)), (2, .int ((0 : Int32))), (0, .ref x), (1, .int u)]) hx hb d_Arr_fill_4 rfl hl (by decide) rfl (fun ls hl => ?_)
  have loop_5 : ∀ (N_5 : Nat) (i : Nat) (gg : Nat → Int32), (i ≤ len) → (∀ j, j < i → gg j = u) → (len - i) < N_5 → ∀ (H : Heap) (locs : List Loc), va_P (dC, dI) smC [(x, .inl (cI, len, .inl gg))] H → va_D A [(x, .inl (cI, len, .inl gg))] → va_S A s.heap H locs → ∀ ls : Array Slot, lv_has ls 4 [(0, .ref x), (1, .int u), (2, .int (nI i)), (3, .int (nI len))] → W p l e (rmF 0 0) s m ([.ref x, .int u] : List Value).toArray below meth c H locs 0 0 (MQ below (va_Qv (fun w2 => w2 = [(x, .inl (cI, len, .inl (fun _ => u)))]) (sm_B (dC, dI) smC [(cI, .int), (cZ, .boolean)] A) A) ([.ref x, .int u] : List Value).toArray s 0 0 A) (F0 m 5 ls []) := by
    intro N_5
    induction N_5 with
    | zero => intro i gg _ _ z; exact absurd z (Nat.not_lt_zero _)
    | succ N_5 ih_5 =>
      intro i gg hi hg m_5 H locs hP hD hS ls hl
      refine lv_iload_n hx hb d_Arr_fill_5 rfl (lv_at hl 2 rfl) ?_
      refine lv_iload_n hx hb d_Arr_fill_6 rfl (lv_at hl 3 rfl) ?_
      refine lv_icmp_ge (tgt := 20) hx hb d_Arr_fill_7 (by decide) (fun c_7 => ?_) (fun c_7 => ?_)
      · skip
        have f_7 : len ≤ i := (nI_leI (a := len) (b := i) (by first | omega | decide) (by first | omega | decide)).mp c_7
        have hP := sm_Pcong (f := fun _ => u) (fun j hj => hg j (by omega)) hP
        have hD := sm_Dcong (f := fun _ => u) hD
        have hP : va_P (dC, dI) smC [(x, .inl (cI, len, .inl (fun _ => u)))] H := hP
        have hD : va_D A [(x, .inl (cI, len, .inl (fun _ => u)))] := hD
        refine sm_rv (ws := [(x, .inl (cI, len, .inl (fun _ => u)))]) hx hb hr hlocks hK (hP.sub [0] rfl) (hD.sub [0] (by decide) rfl) hS ?_ d_Arr_fill_20
        rfl
      · skip
        have f_7 : ¬ len ≤ i := fun z => c_7 ((nI_leI (a := len) (b := i) (by first | omega | decide) (by first | omega | decide)).mpr z)
        refine lv_aload_n hx hb d_Arr_fill_10 rfl (lv_at hl 0 rfl) ?_
        refine lv_iload_n hx hb d_Arr_fill_11 rfl (lv_at hl 2 rfl) ?_
        refine lv_iload_n hx hb d_Arr_fill_12 rfl (lv_at hl 1 rfl) ?_
        refine sm_iast (j := i) hx hb hK hP hD hS 0 0 rfl rfl (vp_in_nI (by first | omega | assumption) (by first | decide | omega)) (nI_clamp (by first | omega | (have := sm_lt31; omega))) d_Arr_fill_13 (fun H locs hP hD hS => ?_)
        have hP : va_P (dC, dI) smC [(x, .inl (cI, len, .inl (upd gg i u)))] H := hP
        have hD : va_D A [(x, .inl (cI, len, .inl (upd gg i u)))] := hD
        refine lv_iinc (v := nI (i + 1)) (lv' := [(2, .int (nI (i + 1))), (0, .ref x), (1, .int u), (3, .int (nI len))]) hx hb d_Arr_fill_14 hl (k := 2) rfl (nI_add i 1) (by decide) rfl (fun ls hl => ?_)
        refine lv_goto (tgt := 5) hx hb d_Arr_fill_17 (by decide) ?_
        exact ih_5 (i + 1) (upd gg i u) (by omega) (sm_fillstep hg) (by omega) _ _ (hP.sub [0] rfl) (hD.sub [0] (by decide) rfl) hS _ (lv_sub hl [1, 2, 0, 3] rfl)
  exact loop_5 (len + 1) 0 f (Nat.zero_le _) (fun j hj => absurd hj (Nat.not_lt_zero _)) (by omega) _ _ (hP.sub [0] rfl) (hD.sub [0] (by decide) rfl) hS _ (lv_sub hl [2, 3, 1, 0] rfl)
abbrev y_Liv_markStale : MethodName := ⟨"ScanMill$Liveness", "markStale", "()V"⟩
theorem d_Liv_markStale_0 : decode prog_2_method_2_code 0 = .ok (.aload_n 0, 1) := by decide +kernel
theorem d_Liv_markStale_1 : decode prog_2_method_2_code 1 = .ok (.iconst 1, 1) := by decide +kernel
theorem d_Liv_markStale_2 : decode prog_2_method_2_code 2 = .ok (.putfield 15, 3) := by decide +kernel
theorem mw_53 : Cond.fieldLink "ScanMill$Liveness" 15 "ScanMill$Liveness" "stale" "Z" ∈ wG := wG_t 53 (by decide +kernel) (by decide +kernel)
theorem d_Liv_markStale_5 : decode prog_2_method_2_code 5 = .ok (.return_, 1) := by decide +kernel
set_option maxRecDepth 100000 in
set_option maxHeartbeats 4000000 in
theorem c_Liv_markStale {l : Launch} {dC : Nat → ClassId} {dI : Nat → Nat → Nat} {cI cZ : ClassId} {lv lf : Nat} {ff : Nat → Int32} {stl : Int32}  : sm_V l y_Liv_markStale prog_2_method_2_code 1 none (rmF 0 0) (dC, dI) smC [(cI, .int), (cZ, .boolean)] [.ref lv] [(lv, .inr (1, [.ref lf, .int stl])), (lf, .inl (cI, 61, .inl ff))] (fun w2 => w2 = [(lv, .inr (1, [.ref lf, .int ((1 : Int32))])), (lf, .inl (cI, 61, .inl ff))]) := by
  refine sm_V.mk (by decide) (Nat.le_of_ble_eq_true rfl) ?_
  intro p e s m below meth c A H locs ls hx hb hr ht hown hlocks hml hnm hP hK hD hA hS hN hl
  have hl : lv_has ls 1 [(0, .ref lv)] := hl
  refine lv_aload_n hx hb d_Liv_markStale_0 rfl (lv_at hl 0 rfl) ?_
  refine lv_iconst (v := 1) hx hb d_Liv_markStale_1 (by decide) ?_
  refine va_put (D := (dC, dI)) (ci := 1) (v := .int ((1 : Int32))) (ty := .boolean) (C := R_Liv) (T := T_Liv) (N := 2) hx hb ht i_Liv t_Liv t_Liv_ok n_Liv hown hK hP hD hS 0 rfl rfl 1 (by decide) (ht _ mw_53) (fun _ h9 => h9) rfl (by decide +kernel) rfl rfl (Nat.le_of_ble_eq_true rfl) d_Liv_markStale_2 (fun H locs hP hD hS => ?_)
  have hP : va_P (dC, dI) smC [(lv, .inr (1, [.ref lf, .int ((1 : Int32))])), (lf, .inl (cI, 61, .inl ff))] H := hP
  have hD : va_D A [(lv, .inr (1, [.ref lf, .int ((1 : Int32))])), (lf, .inl (cI, 61, .inl ff))] := hD
  refine sm_rv (ws := [(lv, .inr (1, [.ref lf, .int ((1 : Int32))])), (lf, .inl (cI, 61, .inl ff))]) hx hb hr hlocks hK (hP.sub [0, 1] rfl) (hD.sub [0, 1] (by decide) rfl) hS ?_ d_Liv_markStale_5
  rfl
abbrev y_Liv_bit : MethodName := ⟨"ScanMill$Liveness", "bit", "(I)I"⟩
theorem d_Liv_bit_0 : decode prog_2_method_8_code 0 = .ok (.iload_n 0, 1) := by decide +kernel
theorem d_Liv_bit_1 : decode prog_2_method_8_code 1 = .ok (.invokestatic 67, 3) := by decide +kernel
theorem d_Liv_bit_4 : decode prog_2_method_8_code 4 = .ok (.ifCond .eq 9, 3) := by decide +kernel
theorem d_Liv_bit_13 : decode prog_2_method_8_code 13 = .ok (.iconst 0, 1) := by decide +kernel
theorem d_Liv_bit_14 : decode prog_2_method_8_code 14 = .ok (.ireturn, 1) := by decide +kernel
theorem d_Liv_bit_7 : decode prog_2_method_8_code 7 = .ok (.iconst 1, 1) := by decide +kernel
theorem d_Liv_bit_8 : decode prog_2_method_8_code 8 = .ok (.iload_n 0, 1) := by decide +kernel
theorem d_Liv_bit_9 : decode prog_2_method_8_code 9 = .ok (.ishl, 1) := by decide +kernel
theorem d_Liv_bit_10 : decode prog_2_method_8_code 10 = .ok (.goto 4, 3) := by decide +kernel
set_option maxRecDepth 100000 in
set_option maxHeartbeats 4000000 in
theorem c_Liv_bit {l : Launch} {dC : Nat → ClassId} {dI : Nat → Nat → Nat} {cI cZ : ClassId} {v : Int32}  : sm_I l y_Liv_bit prog_2_method_8_code 1 (some .int) (rmF 1 20) (dC, dI) smC [(cI, .int), (cZ, .boolean)] [.int v] [] (fun q w2 => q = (bitV v) ∧ w2 = []) := by
  refine sm_I.mk (by decide) (Nat.le_of_ble_eq_true rfl) ?_
  intro p e s m below meth c A H locs ls hx hb hr ht hown hlocks hml hnm hP hK hD hA hS hN hl
  have hl : lv_has ls 1 [(0, .int v)] := hl
  refine lv_iload_n hx hb d_Liv_bit_0 rfl (lv_at hl 0 rfl) ?_
  refine sm_goi (wc := []) (wr := []) (va_runSN (As := [.int v]) (rest := []) ⟨hx, hb, hml, hown, ht⟩ ((c_Mill_isValue (l := l) (dC := dC) (dI := dI) (cI := cI) (cZ := cZ) (v := v) ).at H.size) (sm_cN 1 ht mw_163 mw_1 hN.2.2.1 mw_162 rfl rfl (by decide +kernel) ⟨Nat.le_of_ble_eq_true rfl, Nat.le_of_ble_eq_true rfl⟩) (sm_preS hN hK hP hD [] rfl rfl (by decide)) rfl rfl hl.1 rfl (lv_room (Nat.le_of_ble_eq_true rfl)) d_Liv_bit_1 ⟨Nat.zero_le _, Nat.zero_le _⟩) hP hD hS hA [] [] rfl rfl (by decide) (by decide) (fun r_1 w_1 H locs q_1 hP hD hS => ?_)
  obtain ⟨rfl, rfl⟩ := q_1
  have hP : va_P (dC, dI) smC [] H := hP
  have hD : va_D A [] := hD
  refine lv_if_eq (tgt := 13) hx hb d_Liv_bit_4 (by decide) (fun c_4 => ?_) (fun c_4 => ?_)
  · skip
    have e_4 : (inB v 24) = false := b2i_eq0 c_4
    refine lv_iconst (v := 0) hx hb d_Liv_bit_13 (by decide) ?_
    refine sm_ri (v := (0 : Int32)) (ws := []) hx hb hr hlocks hK (hP.sub [] rfl) (hD.sub [] (by decide) rfl) hS ?_ d_Liv_bit_14
    exact ⟨by simp [bitV, e_4], rfl⟩
  · skip
    have e_4 : (inB v 24) = true := b2i_ne0 c_4
    refine lv_iconst (v := 1) hx hb d_Liv_bit_7 (by decide) ?_
    refine lv_iload_n hx hb d_Liv_bit_8 rfl (lv_at hl 0 rfl) ?_
    refine lv_ishl hx hb d_Liv_bit_9 ?_
    refine lv_goto (tgt := 14) hx hb d_Liv_bit_10 (by decide) ?_
    refine sm_ri (v := ((1 : Int32)) <<< (v &&& 31)) (ws := []) hx hb hr hlocks hK (hP.sub [] rfl) (hD.sub [] (by decide) rfl) hS ?_ d_Liv_bit_14
    exact ⟨by simp [bitV, e_4], rfl⟩
abbrev y_Liv_setAhead : MethodName := ⟨"ScanMill$Liveness", "setAhead", "(I)I"⟩
theorem d_Liv_setAhead_0 : decode prog_2_method_7_code 0 = .ok (.iload_n 1, 1) := by decide +kernel
theorem d_Liv_setAhead_1 : decode prog_2_method_7_code 1 = .ok (.ifCond .lt 18, 3) := by decide +kernel
theorem d_Liv_setAhead_19 : decode prog_2_method_7_code 19 = .ok (.iconst 0, 1) := by decide +kernel
theorem d_Liv_setAhead_20 : decode prog_2_method_7_code 20 = .ok (.ireturn, 1) := by decide +kernel
theorem d_Liv_setAhead_4 : decode prog_2_method_7_code 4 = .ok (.iload_n 1, 1) := by decide +kernel
theorem d_Liv_setAhead_5 : decode prog_2_method_7_code 5 = .ok (.bipush 60, 2) := by decide +kernel
theorem d_Liv_setAhead_7 : decode prog_2_method_7_code 7 = .ok (.if_icmp .gt 12, 3) := by decide +kernel
theorem d_Liv_setAhead_10 : decode prog_2_method_7_code 10 = .ok (.aload_n 0, 1) := by decide +kernel
theorem d_Liv_setAhead_11 : decode prog_2_method_7_code 11 = .ok (.getfield 9, 3) := by decide +kernel
theorem mw_52 : Cond.fieldLink "ScanMill$Liveness" 9 "ScanMill$Liveness" "ahead" "[I" ∈ wG := wG_t 52 (by decide +kernel) (by decide +kernel)
theorem d_Liv_setAhead_14 : decode prog_2_method_7_code 14 = .ok (.iload_n 1, 1) := by decide +kernel
theorem d_Liv_setAhead_15 : decode prog_2_method_7_code 15 = .ok (.iaload, 1) := by decide +kernel
theorem d_Liv_setAhead_16 : decode prog_2_method_7_code 16 = .ok (.goto 4, 3) := by decide +kernel
set_option maxRecDepth 100000 in
set_option maxHeartbeats 4000000 in
theorem c_Liv_setAhead {l : Launch} {dC : Nat → ClassId} {dI : Nat → Nat → Nat} {cI cZ : ClassId} {lv lf : Nat} {ff : Nat → Int32} {stl : Int32} {k : Int32}  : sm_I l y_Liv_setAhead prog_2_method_7_code 2 (some .int) (rmF 0 0) (dC, dI) smC [(cI, .int), (cZ, .boolean)] [.ref lv, .int k] [(lv, .inr (1, [.ref lf, .int stl])), (lf, .inl (cI, 61, .inl ff))] (fun q w2 => q = (sH ff k) ∧ w2 = [(lv, .inr (1, [.ref lf, .int stl])), (lf, .inl (cI, 61, .inl ff))]) := by
  refine sm_I.mk (by decide) (Nat.le_of_ble_eq_true rfl) ?_
  intro p e s m below meth c A H locs ls hx hb hr ht hown hlocks hml hnm hP hK hD hA hS hN hl
  have hl : lv_has ls 2 [(0, .ref lv), (1, .int k)] := hl
  refine lv_iload_n hx hb d_Liv_setAhead_0 rfl (lv_at hl 1 rfl) ?_
  refine lv_if_lt (tgt := 19) hx hb d_Liv_setAhead_1 (by decide) (fun c_1 => ?_) (fun c_1 => ?_)
  · skip
    refine lv_iconst (v := 0) hx hb d_Liv_setAhead_19 (by decide) ?_
    refine sm_ri (v := (0 : Int32)) (ws := [(lv, .inr (1, [.ref lf, .int stl])), (lf, .inl (cI, 61, .inl ff))]) hx hb hr hlocks hK (hP.sub [0, 1] rfl) (hD.sub [0, 1] (by decide) rfl) hS ?_ d_Liv_setAhead_20
    exact ⟨by simp [sH, in_lo (n := 61) c_1], rfl⟩
  · skip
    refine lv_iload_n hx hb d_Liv_setAhead_4 rfl (lv_at hl 1 rfl) ?_
    refine lv_bipush (v := 60) hx hb d_Liv_setAhead_5 (by decide) ?_
    refine lv_icmp_gt (tgt := 19) hx hb d_Liv_setAhead_7 (by decide) (fun c_7 => ?_) (fun c_7 => ?_)
    · skip
      refine lv_iconst (v := 0) hx hb d_Liv_setAhead_19 (by decide) ?_
      refine sm_ri (v := (0 : Int32)) (ws := [(lv, .inr (1, [.ref lf, .int stl])), (lf, .inl (cI, 61, .inl ff))]) hx hb hr hlocks hK (hP.sub [0, 1] rfl) (hD.sub [0, 1] (by decide) rfl) hS ?_ d_Liv_setAhead_20
      exact ⟨by simp [sH, in_hg (M := 60) (n := 61) (by decide) c_7], rfl⟩
    · skip
      refine lv_aload_n hx hb d_Liv_setAhead_10 rfl (lv_at hl 0 rfl) ?_
      refine va_get (D := (dC, dI)) (ci := 1) (v := .ref lf) (C := R_Liv) (T := T_Liv) (N := 2) hx hb ht i_Liv hown hK hP 0 rfl rfl 0 (by decide) (ht _ mw_52) (fun _ h9 => h9) rfl d_Liv_setAhead_11 ?_
      refine lv_iload_n hx hb d_Liv_setAhead_14 rfl (lv_at hl 1 rfl) ?_
      refine sm_iald (j := k.toNatClampNeg) hx hb hK hP 1 0 rfl rfl (sm_inB (in_gt (M := 60) (by decide) c_1 c_7)) rfl d_Liv_setAhead_15 ?_
      refine lv_goto (tgt := 20) hx hb d_Liv_setAhead_16 (by decide) ?_
      refine sm_ri (v := ff k.toNatClampNeg) (ws := [(lv, .inr (1, [.ref lf, .int stl])), (lf, .inl (cI, 61, .inl ff))]) hx hb hr hlocks hK (hP.sub [0, 1] rfl) (hD.sub [0, 1] (by decide) rfl) hS ?_ d_Liv_setAhead_20
      exact ⟨by simp [sH, in_gt (M := 60) (n := 61) (by decide) c_1 c_7], rfl⟩
abbrev y_Liv_has : MethodName := ⟨"ScanMill$Liveness", "has", "(II)Z"⟩
theorem d_Liv_has_0 : decode prog_2_method_3_code 0 = .ok (.aload_n 0, 1) := by decide +kernel
theorem d_Liv_has_1 : decode prog_2_method_3_code 1 = .ok (.iload_n 1, 1) := by decide +kernel
theorem d_Liv_has_2 : decode prog_2_method_3_code 2 = .ok (.invokevirtual 19, 3) := by decide +kernel
theorem mw_242 : Cond.code ⟨"ScanMill$Liveness", "setAhead", "(I)I"⟩ prog_2_method_7_code 2 (Option.some FieldType.int) ∈ wG := wG_t 242 (by decide +kernel) (by decide +kernel)
theorem mw_3 : Cond.initialized "ScanMill$Liveness" ∈ wG := wG_t 3 (by decide +kernel) (by decide +kernel)
theorem mw_239 : Cond.methodLink "ScanMill$Liveness" 19 ⟨"ScanMill$Liveness", "setAhead", "(I)I"⟩ ∈ wG := wG_t 239 (by decide +kernel) (by decide +kernel)
theorem mw_241 : Cond.instanceMethod ⟨"ScanMill$Liveness", "setAhead", "(I)I"⟩ ∈ wG := wG_t 241 (by decide +kernel) (by decide +kernel)
theorem mp_4 : Cond.selects "ScanMill$Liveness" ⟨"ScanMill$Liveness", "setAhead", "(I)I"⟩ ⟨"ScanMill$Liveness", "setAhead", "(I)I"⟩ ∈ wG := wG_p 4 (by decide +kernel) (by decide +kernel)
theorem d_Liv_has_5 : decode prog_2_method_3_code 5 = .ok (.iload_n 2, 1) := by decide +kernel
theorem d_Liv_has_6 : decode prog_2_method_3_code 6 = .ok (.invokestatic 23, 3) := by decide +kernel
theorem mw_224 : Cond.code ⟨"ScanMill$Liveness", "bit", "(I)I"⟩ prog_2_method_8_code 1 (Option.some FieldType.int) ∈ wG := wG_t 224 (by decide +kernel) (by decide +kernel)
theorem mw_223 : Cond.static ⟨"ScanMill$Liveness", "bit", "(I)I"⟩ ∈ wG := wG_t 223 (by decide +kernel) (by decide +kernel)
theorem mw_222 : Cond.methodLink "ScanMill$Liveness" 23 ⟨"ScanMill$Liveness", "bit", "(I)I"⟩ ∈ wG := wG_t 222 (by decide +kernel) (by decide +kernel)
theorem d_Liv_has_9 : decode prog_2_method_3_code 9 = .ok (.iand, 1) := by decide +kernel
theorem d_Liv_has_10 : decode prog_2_method_3_code 10 = .ok (.ifCond .eq 7, 3) := by decide +kernel
theorem d_Liv_has_17 : decode prog_2_method_3_code 17 = .ok (.iconst 0, 1) := by decide +kernel
theorem d_Liv_has_18 : decode prog_2_method_3_code 18 = .ok (.ireturn, 1) := by decide +kernel
theorem d_Liv_has_13 : decode prog_2_method_3_code 13 = .ok (.iconst 1, 1) := by decide +kernel
theorem d_Liv_has_14 : decode prog_2_method_3_code 14 = .ok (.goto 4, 3) := by decide +kernel
set_option maxRecDepth 100000 in
set_option maxHeartbeats 4000000 in
theorem c_Liv_has {l : Launch} {dC : Nat → ClassId} {dI : Nat → Nat → Nat} {cI cZ : ClassId} {lv lf : Nat} {ff : Nat → Int32} {stl : Int32} {k v : Int32}  : sm_I l y_Liv_has prog_2_method_3_code 3 (some .boolean) (rmF 2 40) (dC, dI) smC [(cI, .int), (cZ, .boolean)] [.ref lv, .int k, .int v] [(lv, .inr (1, [.ref lf, .int stl])), (lf, .inl (cI, 61, .inl ff))] (fun q w2 => q = (b2i (hasB ff k v)) ∧ w2 = [(lv, .inr (1, [.ref lf, .int stl])), (lf, .inl (cI, 61, .inl ff))]) := by
  refine sm_I.mk (by decide) (Nat.le_of_ble_eq_true rfl) ?_
  intro p e s m below meth c A H locs ls hx hb hr ht hown hlocks hml hnm hP hK hD hA hS hN hl
  have hl : lv_has ls 3 [(0, .ref lv), (1, .int k), (2, .int v)] := hl
  refine lv_aload_n hx hb d_Liv_has_0 rfl (lv_at hl 0 rfl) ?_
  refine lv_iload_n hx hb d_Liv_has_1 rfl (lv_at hl 1 rfl) ?_
  refine sm_goi (wc := [(lv, .inr (1, [.ref lf, .int stl])), (lf, .inl (cI, 61, .inl ff))]) (wr := []) (va_runV (As := [.int k]) (rest := []) ⟨hx, hb, hml, hown, ht⟩ ((c_Liv_setAhead (l := l) (dC := dC) (dI := dI) (cI := cI) (cZ := cZ) (lv := lv) (lf := lf) (ff := ff) (stl := stl) (k := k) ).at H.size) (sm_cV 1 ht mw_242 mw_3 mw_239 mw_241 mp_4 rfl rfl (by decide +kernel) ⟨Nat.le_of_ble_eq_true rfl, Nat.le_of_ble_eq_true rfl⟩) (sm_preV (ci := 1) hN hK hP hD [0, 1] rfl rfl (by decide) 0 rfl rfl) rfl rfl hl.1 rfl (lv_room (Nat.le_of_ble_eq_true rfl)) d_Liv_has_2 ⟨Nat.zero_le _, Nat.zero_le _⟩) hP hD hS hA [0, 1] [] rfl rfl (by decide) (by decide) (fun r_2 w_2 H locs q_2 hP hD hS => ?_)
  obtain ⟨rfl, rfl⟩ := q_2
  have hP : va_P (dC, dI) smC [(lv, .inr (1, [.ref lf, .int stl])), (lf, .inl (cI, 61, .inl ff))] H := hP
  have hD : va_D A [(lv, .inr (1, [.ref lf, .int stl])), (lf, .inl (cI, 61, .inl ff))] := hD
  refine lv_iload_n hx hb d_Liv_has_5 rfl (lv_at hl 2 rfl) ?_
  refine sm_goi (wc := []) (wr := [(lv, .inr (1, [.ref lf, .int stl])), (lf, .inl (cI, 61, .inl ff))]) (va_runS (As := [.int v]) (rest := [.int (sH ff k)]) ⟨hx, hb, hml, hown, ht⟩ ((c_Liv_bit (l := l) (dC := dC) (dI := dI) (cI := cI) (cZ := cZ) (v := v) ).at H.size) (sm_cS 1 ht mw_224 mw_3 mw_222 mw_223 rfl rfl (by decide +kernel) ⟨Nat.le_of_ble_eq_true rfl, Nat.le_of_ble_eq_true rfl⟩) (sm_preS hN hK hP hD [] rfl rfl (by decide)) rfl rfl hl.1 rfl (lv_room (Nat.le_of_ble_eq_true rfl)) d_Liv_has_6 ⟨Nat.zero_le _, Nat.zero_le _⟩) hP hD hS hA [] [0, 1] rfl rfl (by decide) (by decide) (fun r_6 w_6 H locs q_6 hP hD hS => ?_)
  obtain ⟨rfl, rfl⟩ := q_6
  have hP : va_P (dC, dI) smC [(lv, .inr (1, [.ref lf, .int stl])), (lf, .inl (cI, 61, .inl ff))] H := hP
  have hD : va_D A [(lv, .inr (1, [.ref lf, .int stl])), (lf, .inl (cI, 61, .inl ff))] := hD
  refine lv_iand hx hb d_Liv_has_9 ?_
  refine lv_if_eq (tgt := 17) hx hb d_Liv_has_10 (by decide) (fun c_10 => ?_) (fun c_10 => ?_)
  · skip
    refine lv_iconst (v := 0) hx hb d_Liv_has_17 (by decide) ?_
    refine sm_rz (v := (0 : Int32)) (ws := [(lv, .inr (1, [.ref lf, .int stl])), (lf, .inl (cI, 61, .inl ff))]) hx hb hr hlocks hK (hP.sub [0, 1] rfl) (hD.sub [0, 1] (by decide) rfl) hS (by decide) ?_ d_Liv_has_18
    exact ⟨by simp [hasB, b2i, c_10], rfl⟩
  · skip
    refine lv_iconst (v := 1) hx hb d_Liv_has_13 (by decide) ?_
    refine lv_goto (tgt := 18) hx hb d_Liv_has_14 (by decide) ?_
    refine sm_rz (v := (1 : Int32)) (ws := [(lv, .inr (1, [.ref lf, .int stl])), (lf, .inl (cI, 61, .inl ff))]) hx hb hr hlocks hK (hP.sub [0, 1] rfl) (hD.sub [0, 1] (by decide) rfl) hS (by decide) ?_ d_Liv_has_18
    exact ⟨by simp [hasB, b2i, c_10], rfl⟩
abbrev y_Liv_setBehind : MethodName := ⟨"ScanMill$Liveness", "setBehind", "(LScanMill$Row;I)I"⟩
theorem d_Liv_setBehind_0 : decode prog_2_method_6_code 0 = .ok (.aload_n 1, 1) := by decide +kernel
theorem d_Liv_setBehind_1 : decode prog_2_method_6_code 1 = .ok (.iload_n 2, 1) := by decide +kernel
theorem d_Liv_setBehind_2 : decode prog_2_method_6_code 2 = .ok (.invokevirtual 61, 3) := by decide +kernel
theorem mw_234 : Cond.methodLink "ScanMill$Liveness" 61 ⟨"ScanMill$Row", "kindAt", "(I)I"⟩ ∈ wG := wG_t 234 (by decide +kernel) (by decide +kernel)
theorem d_Liv_setBehind_5 : decode prog_2_method_6_code 5 = .ok (.tableswitch 65 7 11 #[35, 45, 65, 65, 63], 35) := by decide +kernel
theorem d_Liv_setBehind_40 : decode prog_2_method_6_code 40 = .ok (.aload_n 0, 1) := by decide +kernel
theorem d_Liv_setBehind_41 : decode prog_2_method_6_code 41 = .ok (.aload_n 1, 1) := by decide +kernel
theorem d_Liv_setBehind_42 : decode prog_2_method_6_code 42 = .ok (.iload_n 2, 1) := by decide +kernel
theorem d_Liv_setBehind_43 : decode prog_2_method_6_code 43 = .ok (.invokevirtual 64, 3) := by decide +kernel
theorem mw_238 : Cond.code ⟨"ScanMill$Row", "targetAt", "(I)I"⟩ prog_5_method_10_code 2 (Option.some FieldType.int) ∈ wG := wG_t 238 (by decide +kernel) (by decide +kernel)
theorem mw_235 : Cond.methodLink "ScanMill$Liveness" 64 ⟨"ScanMill$Row", "targetAt", "(I)I"⟩ ∈ wG := wG_t 235 (by decide +kernel) (by decide +kernel)
theorem mw_236 : Cond.instanceMethod ⟨"ScanMill$Row", "targetAt", "(I)I"⟩ ∈ wG := wG_t 236 (by decide +kernel) (by decide +kernel)
theorem mw_237 : Cond.selects "ScanMill$Row" ⟨"ScanMill$Row", "targetAt", "(I)I"⟩ ⟨"ScanMill$Row", "targetAt", "(I)I"⟩ ∈ wG := wG_t 237 (by decide +kernel) (by decide +kernel)
theorem d_Liv_setBehind_46 : decode prog_2_method_6_code 46 = .ok (.invokevirtual 19, 3) := by decide +kernel
theorem d_Liv_setBehind_49 : decode prog_2_method_6_code 49 = .ok (.ireturn, 1) := by decide +kernel
theorem d_Liv_setBehind_50 : decode prog_2_method_6_code 50 = .ok (.aload_n 0, 1) := by decide +kernel
theorem d_Liv_setBehind_51 : decode prog_2_method_6_code 51 = .ok (.aload_n 1, 1) := by decide +kernel
theorem d_Liv_setBehind_52 : decode prog_2_method_6_code 52 = .ok (.iload_n 2, 1) := by decide +kernel
theorem d_Liv_setBehind_53 : decode prog_2_method_6_code 53 = .ok (.invokevirtual 64, 3) := by decide +kernel
theorem d_Liv_setBehind_56 : decode prog_2_method_6_code 56 = .ok (.invokevirtual 19, 3) := by decide +kernel
theorem d_Liv_setBehind_59 : decode prog_2_method_6_code 59 = .ok (.aload_n 0, 1) := by decide +kernel
theorem d_Liv_setBehind_60 : decode prog_2_method_6_code 60 = .ok (.iload_n 2, 1) := by decide +kernel
theorem d_Liv_setBehind_61 : decode prog_2_method_6_code 61 = .ok (.iconst 1, 1) := by decide +kernel
theorem d_Liv_setBehind_62 : decode prog_2_method_6_code 62 = .ok (.iadd, 1) := by decide +kernel
theorem d_Liv_setBehind_63 : decode prog_2_method_6_code 63 = .ok (.invokevirtual 19, 3) := by decide +kernel
theorem d_Liv_setBehind_66 : decode prog_2_method_6_code 66 = .ok (.ior, 1) := by decide +kernel
theorem d_Liv_setBehind_67 : decode prog_2_method_6_code 67 = .ok (.ireturn, 1) := by decide +kernel
theorem d_Liv_setBehind_68 : decode prog_2_method_6_code 68 = .ok (.iconst 0, 1) := by decide +kernel
theorem d_Liv_setBehind_69 : decode prog_2_method_6_code 69 = .ok (.ireturn, 1) := by decide +kernel
theorem d_Liv_setBehind_70 : decode prog_2_method_6_code 70 = .ok (.aload_n 0, 1) := by decide +kernel
theorem d_Liv_setBehind_71 : decode prog_2_method_6_code 71 = .ok (.iload_n 2, 1) := by decide +kernel
theorem d_Liv_setBehind_72 : decode prog_2_method_6_code 72 = .ok (.iconst 1, 1) := by decide +kernel
theorem d_Liv_setBehind_73 : decode prog_2_method_6_code 73 = .ok (.iadd, 1) := by decide +kernel
theorem d_Liv_setBehind_74 : decode prog_2_method_6_code 74 = .ok (.invokevirtual 19, 3) := by decide +kernel
theorem d_Liv_setBehind_77 : decode prog_2_method_6_code 77 = .ok (.ireturn, 1) := by decide +kernel
set_option maxRecDepth 100000 in
set_option maxHeartbeats 4000000 in
theorem c_Liv_setBehind {l : Launch} {dC : Nat → ClassId} {dI : Nat → Nat → Nat} {cI cZ : ClassId} {lv lf : Nat} {ff : Nat → Int32} {stl : Int32} {r rk ra rb rc n : Nat} {fk fa fb fc : Nat → Int32} {k : Int32} (hn : n ≤ 60) : sm_I l y_Liv_setBehind prog_2_method_6_code 3 (some .int) (rmF 3 63) (dC, dI) smC [(cI, .int), (cZ, .boolean)] [.ref lv, .ref r, .int k] [(lv, .inr (1, [.ref lf, .int stl])), (lf, .inl (cI, 61, .inl ff)), (r, .inr (0, [.ref rk, .ref ra, .ref rb, .ref rc, .int (nI n)])), (rk, .inl (cI, 60, .inl fk)), (ra, .inl (cI, 60, .inl fa)), (rb, .inl (cI, 60, .inl fb)), (rc, .inl (cI, 60, .inl fc))] (fun q w2 => q = (sBh n fk fa fb ff k) ∧ w2 = [(lv, .inr (1, [.ref lf, .int stl])), (lf, .inl (cI, 61, .inl ff)), (r, .inr (0, [.ref rk, .ref ra, .ref rb, .ref rc, .int (nI n)])), (rk, .inl (cI, 60, .inl fk)), (ra, .inl (cI, 60, .inl fa)), (rb, .inl (cI, 60, .inl fb)), (rc, .inl (cI, 60, .inl fc))]) := by
  refine sm_I.mk (by decide) (Nat.le_of_ble_eq_true rfl) ?_
  intro p e s m below meth c A H locs ls hx hb hr ht hown hlocks hml hnm hP hK hD hA hS hN hl
  have hl : lv_has ls 3 [(0, .ref lv), (1, .ref r), (2, .int k)] := hl
  refine lv_aload_n hx hb d_Liv_setBehind_0 rfl (lv_at hl 1 rfl) ?_
  refine lv_iload_n hx hb d_Liv_setBehind_1 rfl (lv_at hl 2 rfl) ?_
  refine sm_goi (wc := [(r, .inr (0, [.ref rk, .ref ra, .ref rb, .ref rc, .int (nI n)])), (rk, .inl (cI, 60, .inl fk)), (ra, .inl (cI, 60, .inl fa)), (rb, .inl (cI, 60, .inl fb)), (rc, .inl (cI, 60, .inl fc))]) (wr := [(lv, .inr (1, [.ref lf, .int stl])), (lf, .inl (cI, 61, .inl ff))]) (va_runV (As := [.int k]) (rest := []) ⟨hx, hb, hml, hown, ht⟩ ((c_Row_kindAt (l := l) (dC := dC) (dI := dI) (cI := cI) (cZ := cZ) (r := r) (rk := rk) (ra := ra) (rb := rb) (rc := rc) (n := n) (fk := fk) (fa := fa) (fb := fb) (fc := fc) (k := k) (by first | assumption | omega)).at H.size) (sm_cV 1 ht mw_217 mw_2 mw_234 mw_215 mw_216 rfl rfl (by decide +kernel) ⟨Nat.le_of_ble_eq_true rfl, Nat.le_of_ble_eq_true rfl⟩) (sm_preV (ci := 0) hN hK hP hD [2, 3, 4, 5, 6] rfl rfl (by decide) 2 rfl rfl) rfl rfl hl.1 rfl (lv_room (Nat.le_of_ble_eq_true rfl)) d_Liv_setBehind_2 ⟨Nat.zero_le _, Nat.zero_le _⟩) hP hD hS hA [2, 3, 4, 5, 6] [0, 1] rfl rfl (by decide) (by decide) (fun r_2 w_2 H locs q_2 hP hD hS => ?_)
  obtain ⟨rfl, rfl⟩ := q_2
  have hP : va_P (dC, dI) smC [(lv, .inr (1, [.ref lf, .int stl])), (lf, .inl (cI, 61, .inl ff)), (r, .inr (0, [.ref rk, .ref ra, .ref rb, .ref rc, .int (nI n)])), (rk, .inl (cI, 60, .inl fk)), (ra, .inl (cI, 60, .inl fa)), (rb, .inl (cI, 60, .inl fb)), (rc, .inl (cI, 60, .inl fc))] H := hP
  have hD : va_D A [(lv, .inr (1, [.ref lf, .int stl])), (lf, .inl (cI, 61, .inl ff)), (r, .inr (0, [.ref rk, .ref ra, .ref rb, .ref rc, .int (nI n)])), (rk, .inl (cI, 60, .inl fk)), (ra, .inl (cI, 60, .inl fa)), (rb, .inl (cI, 60, .inl fb)), (rc, .inl (cI, 60, .inl fc))] := hD
  by_cases g_5_40 : (kA n fk k) = 7
  · skip
    refine sm_tab (tgt := 40) hx hb d_Liv_setBehind_5 (by rw [g_5_40]; decide) ?_
    refine lv_aload_n hx hb d_Liv_setBehind_40 rfl (lv_at hl 0 rfl) ?_
    refine lv_aload_n hx hb d_Liv_setBehind_41 rfl (lv_at hl 1 rfl) ?_
    refine lv_iload_n hx hb d_Liv_setBehind_42 rfl (lv_at hl 2 rfl) ?_
    refine sm_goi (wc := [(r, .inr (0, [.ref rk, .ref ra, .ref rb, .ref rc, .int (nI n)])), (rk, .inl (cI, 60, .inl fk)), (ra, .inl (cI, 60, .inl fa)), (rb, .inl (cI, 60, .inl fb)), (rc, .inl (cI, 60, .inl fc))]) (wr := [(lv, .inr (1, [.ref lf, .int stl])), (lf, .inl (cI, 61, .inl ff))]) (va_runV (As := [.int k]) (rest := [.ref lv]) ⟨hx, hb, hml, hown, ht⟩ ((c_Row_targetAt (l := l) (dC := dC) (dI := dI) (cI := cI) (cZ := cZ) (r := r) (rk := rk) (ra := ra) (rb := rb) (rc := rc) (n := n) (fk := fk) (fa := fa) (fb := fb) (fc := fc) (k := k) (by first | assumption | omega)).at H.size) (sm_cV 1 ht mw_238 mw_2 mw_235 mw_236 mw_237 rfl rfl (by decide +kernel) ⟨Nat.le_of_ble_eq_true rfl, Nat.le_of_ble_eq_true rfl⟩) (sm_preV (ci := 0) hN hK hP hD [2, 3, 4, 5, 6] rfl rfl (by decide) 2 rfl rfl) rfl rfl hl.1 rfl (lv_room (Nat.le_of_ble_eq_true rfl)) d_Liv_setBehind_43 ⟨Nat.zero_le _, Nat.zero_le _⟩) hP hD hS hA [2, 3, 4, 5, 6] [0, 1] rfl rfl (by decide) (by decide) (fun r_43 w_43 H locs q_43 hP hD hS => ?_)
    obtain ⟨rfl, rfl⟩ := q_43
    have hP : va_P (dC, dI) smC [(lv, .inr (1, [.ref lf, .int stl])), (lf, .inl (cI, 61, .inl ff)), (r, .inr (0, [.ref rk, .ref ra, .ref rb, .ref rc, .int (nI n)])), (rk, .inl (cI, 60, .inl fk)), (ra, .inl (cI, 60, .inl fa)), (rb, .inl (cI, 60, .inl fb)), (rc, .inl (cI, 60, .inl fc))] H := hP
    have hD : va_D A [(lv, .inr (1, [.ref lf, .int stl])), (lf, .inl (cI, 61, .inl ff)), (r, .inr (0, [.ref rk, .ref ra, .ref rb, .ref rc, .int (nI n)])), (rk, .inl (cI, 60, .inl fk)), (ra, .inl (cI, 60, .inl fa)), (rb, .inl (cI, 60, .inl fb)), (rc, .inl (cI, 60, .inl fc))] := hD
    refine sm_goi (wc := [(lv, .inr (1, [.ref lf, .int stl])), (lf, .inl (cI, 61, .inl ff))]) (wr := [(r, .inr (0, [.ref rk, .ref ra, .ref rb, .ref rc, .int (nI n)])), (rk, .inl (cI, 60, .inl fk)), (ra, .inl (cI, 60, .inl fa)), (rb, .inl (cI, 60, .inl fb)), (rc, .inl (cI, 60, .inl fc))]) (va_runV (As := [.int (tA n fk fa fb k)]) (rest := []) ⟨hx, hb, hml, hown, ht⟩ ((c_Liv_setAhead (l := l) (dC := dC) (dI := dI) (cI := cI) (cZ := cZ) (lv := lv) (lf := lf) (ff := ff) (stl := stl) (k := tA n fk fa fb k) ).at H.size) (sm_cV 1 ht mw_242 mw_3 mw_239 mw_241 mp_4 rfl rfl (by decide +kernel) ⟨Nat.le_of_ble_eq_true rfl, Nat.le_of_ble_eq_true rfl⟩) (sm_preV (ci := 1) hN hK hP hD [0, 1] rfl rfl (by decide) 0 rfl rfl) rfl rfl hl.1 rfl (lv_room (Nat.le_of_ble_eq_true rfl)) d_Liv_setBehind_46 ⟨Nat.zero_le _, Nat.zero_le _⟩) hP hD hS hA [0, 1] [2, 3, 4, 5, 6] rfl rfl (by decide) (by decide) (fun r_46 w_46 H locs q_46 hP hD hS => ?_)
    obtain ⟨rfl, rfl⟩ := q_46
    have hP : va_P (dC, dI) smC [(r, .inr (0, [.ref rk, .ref ra, .ref rb, .ref rc, .int (nI n)])), (rk, .inl (cI, 60, .inl fk)), (ra, .inl (cI, 60, .inl fa)), (rb, .inl (cI, 60, .inl fb)), (rc, .inl (cI, 60, .inl fc)), (lv, .inr (1, [.ref lf, .int stl])), (lf, .inl (cI, 61, .inl ff))] H := hP
    have hD : va_D A [(r, .inr (0, [.ref rk, .ref ra, .ref rb, .ref rc, .int (nI n)])), (rk, .inl (cI, 60, .inl fk)), (ra, .inl (cI, 60, .inl fa)), (rb, .inl (cI, 60, .inl fb)), (rc, .inl (cI, 60, .inl fc)), (lv, .inr (1, [.ref lf, .int stl])), (lf, .inl (cI, 61, .inl ff))] := hD
    refine sm_ri (v := sH ff (tA n fk fa fb k)) (ws := [(lv, .inr (1, [.ref lf, .int stl])), (lf, .inl (cI, 61, .inl ff)), (r, .inr (0, [.ref rk, .ref ra, .ref rb, .ref rc, .int (nI n)])), (rk, .inl (cI, 60, .inl fk)), (ra, .inl (cI, 60, .inl fa)), (rb, .inl (cI, 60, .inl fb)), (rc, .inl (cI, 60, .inl fc))]) hx hb hr hlocks hK (hP.sub [5, 6, 0, 1, 2, 3, 4] rfl) (hD.sub [5, 6, 0, 1, 2, 3, 4] (by decide) rfl) hS ?_ d_Liv_setBehind_49
    exact ⟨by simp only [sBh, if_pos g_5_40], rfl⟩
  by_cases g_5_50 : (kA n fk k) = 8
  · skip
    refine sm_tab (tgt := 50) hx hb d_Liv_setBehind_5 (by rw [g_5_50]; decide) ?_
    refine lv_aload_n hx hb d_Liv_setBehind_50 rfl (lv_at hl 0 rfl) ?_
    refine lv_aload_n hx hb d_Liv_setBehind_51 rfl (lv_at hl 1 rfl) ?_
    refine lv_iload_n hx hb d_Liv_setBehind_52 rfl (lv_at hl 2 rfl) ?_
    refine sm_goi (wc := [(r, .inr (0, [.ref rk, .ref ra, .ref rb, .ref rc, .int (nI n)])), (rk, .inl (cI, 60, .inl fk)), (ra, .inl (cI, 60, .inl fa)), (rb, .inl (cI, 60, .inl fb)), (rc, .inl (cI, 60, .inl fc))]) (wr := [(lv, .inr (1, [.ref lf, .int stl])), (lf, .inl (cI, 61, .inl ff))]) (va_runV (As := [.int k]) (rest := [.ref lv]) ⟨hx, hb, hml, hown, ht⟩ ((c_Row_targetAt (l := l) (dC := dC) (dI := dI) (cI := cI) (cZ := cZ) (r := r) (rk := rk) (ra := ra) (rb := rb) (rc := rc) (n := n) (fk := fk) (fa := fa) (fb := fb) (fc := fc) (k := k) (by first | assumption | omega)).at H.size) (sm_cV 1 ht mw_238 mw_2 mw_235 mw_236 mw_237 rfl rfl (by decide +kernel) ⟨Nat.le_of_ble_eq_true rfl, Nat.le_of_ble_eq_true rfl⟩) (sm_preV (ci := 0) hN hK hP hD [2, 3, 4, 5, 6] rfl rfl (by decide) 2 rfl rfl) rfl rfl hl.1 rfl (lv_room (Nat.le_of_ble_eq_true rfl)) d_Liv_setBehind_53 ⟨Nat.zero_le _, Nat.zero_le _⟩) hP hD hS hA [2, 3, 4, 5, 6] [0, 1] rfl rfl (by decide) (by decide) (fun r_53 w_53 H locs q_53 hP hD hS => ?_)
    obtain ⟨rfl, rfl⟩ := q_53
    have hP : va_P (dC, dI) smC [(lv, .inr (1, [.ref lf, .int stl])), (lf, .inl (cI, 61, .inl ff)), (r, .inr (0, [.ref rk, .ref ra, .ref rb, .ref rc, .int (nI n)])), (rk, .inl (cI, 60, .inl fk)), (ra, .inl (cI, 60, .inl fa)), (rb, .inl (cI, 60, .inl fb)), (rc, .inl (cI, 60, .inl fc))] H := hP
    have hD : va_D A [(lv, .inr (1, [.ref lf, .int stl])), (lf, .inl (cI, 61, .inl ff)), (r, .inr (0, [.ref rk, .ref ra, .ref rb, .ref rc, .int (nI n)])), (rk, .inl (cI, 60, .inl fk)), (ra, .inl (cI, 60, .inl fa)), (rb, .inl (cI, 60, .inl fb)), (rc, .inl (cI, 60, .inl fc))] := hD
    refine sm_goi (wc := [(lv, .inr (1, [.ref lf, .int stl])), (lf, .inl (cI, 61, .inl ff))]) (wr := [(r, .inr (0, [.ref rk, .ref ra, .ref rb, .ref rc, .int (nI n)])), (rk, .inl (cI, 60, .inl fk)), (ra, .inl (cI, 60, .inl fa)), (rb, .inl (cI, 60, .inl fb)), (rc, .inl (cI, 60, .inl fc))]) (va_runV (As := [.int (tA n fk fa fb k)]) (rest := []) ⟨hx, hb, hml, hown, ht⟩ ((c_Liv_setAhead (l := l) (dC := dC) (dI := dI) (cI := cI) (cZ := cZ) (lv := lv) (lf := lf) (ff := ff) (stl := stl) (k := tA n fk fa fb k) ).at H.size) (sm_cV 1 ht mw_242 mw_3 mw_239 mw_241 mp_4 rfl rfl (by decide +kernel) ⟨Nat.le_of_ble_eq_true rfl, Nat.le_of_ble_eq_true rfl⟩) (sm_preV (ci := 1) hN hK hP hD [0, 1] rfl rfl (by decide) 0 rfl rfl) rfl rfl hl.1 rfl (lv_room (Nat.le_of_ble_eq_true rfl)) d_Liv_setBehind_56 ⟨Nat.zero_le _, Nat.zero_le _⟩) hP hD hS hA [0, 1] [2, 3, 4, 5, 6] rfl rfl (by decide) (by decide) (fun r_56 w_56 H locs q_56 hP hD hS => ?_)
    obtain ⟨rfl, rfl⟩ := q_56
    have hP : va_P (dC, dI) smC [(r, .inr (0, [.ref rk, .ref ra, .ref rb, .ref rc, .int (nI n)])), (rk, .inl (cI, 60, .inl fk)), (ra, .inl (cI, 60, .inl fa)), (rb, .inl (cI, 60, .inl fb)), (rc, .inl (cI, 60, .inl fc)), (lv, .inr (1, [.ref lf, .int stl])), (lf, .inl (cI, 61, .inl ff))] H := hP
    have hD : va_D A [(r, .inr (0, [.ref rk, .ref ra, .ref rb, .ref rc, .int (nI n)])), (rk, .inl (cI, 60, .inl fk)), (ra, .inl (cI, 60, .inl fa)), (rb, .inl (cI, 60, .inl fb)), (rc, .inl (cI, 60, .inl fc)), (lv, .inr (1, [.ref lf, .int stl])), (lf, .inl (cI, 61, .inl ff))] := hD
    refine lv_aload_n hx hb d_Liv_setBehind_59 rfl (lv_at hl 0 rfl) ?_
    refine lv_iload_n hx hb d_Liv_setBehind_60 rfl (lv_at hl 2 rfl) ?_
    refine lv_iconst (v := 1) hx hb d_Liv_setBehind_61 (by decide) ?_
    refine lv_iadd hx hb d_Liv_setBehind_62 ?_
    refine sm_goi (wc := [(lv, .inr (1, [.ref lf, .int stl])), (lf, .inl (cI, 61, .inl ff))]) (wr := [(r, .inr (0, [.ref rk, .ref ra, .ref rb, .ref rc, .int (nI n)])), (rk, .inl (cI, 60, .inl fk)), (ra, .inl (cI, 60, .inl fa)), (rb, .inl (cI, 60, .inl fb)), (rc, .inl (cI, 60, .inl fc))]) (va_runV (As := [.int (k + ((1 : Int32)))]) (rest := [.int (sH ff (tA n fk fa fb k))]) ⟨hx, hb, hml, hown, ht⟩ ((c_Liv_setAhead (l := l) (dC := dC) (dI := dI) (cI := cI) (cZ := cZ) (lv := lv) (lf := lf) (ff := ff) (stl := stl) (k := k + ((1 : Int32))) ).at H.size) (sm_cV 1 ht mw_242 mw_3 mw_239 mw_241 mp_4 rfl rfl (by decide +kernel) ⟨Nat.le_of_ble_eq_true rfl, Nat.le_of_ble_eq_true rfl⟩) (sm_preV (ci := 1) hN hK hP hD [5, 6] rfl rfl (by decide) 5 rfl rfl) rfl rfl hl.1 rfl (lv_room (Nat.le_of_ble_eq_true rfl)) d_Liv_setBehind_63 ⟨Nat.zero_le _, Nat.zero_le _⟩) hP hD hS hA [5, 6] [0, 1, 2, 3, 4] rfl rfl (by decide) (by decide) (fun r_63 w_63 H locs q_63 hP hD hS => ?_)
    obtain ⟨rfl, rfl⟩ := q_63
    have hP : va_P (dC, dI) smC [(r, .inr (0, [.ref rk, .ref ra, .ref rb, .ref rc, .int (nI n)])), (rk, .inl (cI, 60, .inl fk)), (ra, .inl (cI, 60, .inl fa)), (rb, .inl (cI, 60, .inl fb)), (rc, .inl (cI, 60, .inl fc)), (lv, .inr (1, [.ref lf, .int stl])), (lf, .inl (cI, 61, .inl ff))] H := hP
    have hD : va_D A [(r, .inr (0, [.ref rk, .ref ra, .ref rb, .ref rc, .int (nI n)])), (rk, .inl (cI, 60, .inl fk)), (ra, .inl (cI, 60, .inl fa)), (rb, .inl (cI, 60, .inl fb)), (rc, .inl (cI, 60, .inl fc)), (lv, .inr (1, [.ref lf, .int stl])), (lf, .inl (cI, 61, .inl ff))] := hD
    refine lv_ior hx hb d_Liv_setBehind_66 ?_
    refine sm_ri (v := (sH ff (tA n fk fa fb k)) ||| (sH ff (k + ((1 : Int32))))) (ws := [(lv, .inr (1, [.ref lf, .int stl])), (lf, .inl (cI, 61, .inl ff)), (r, .inr (0, [.ref rk, .ref ra, .ref rb, .ref rc, .int (nI n)])), (rk, .inl (cI, 60, .inl fk)), (ra, .inl (cI, 60, .inl fa)), (rb, .inl (cI, 60, .inl fb)), (rc, .inl (cI, 60, .inl fc))]) hx hb hr hlocks hK (hP.sub [5, 6, 0, 1, 2, 3, 4] rfl) (hD.sub [5, 6, 0, 1, 2, 3, 4] (by decide) rfl) hS ?_ d_Liv_setBehind_67
    exact ⟨by simp only [sBh, if_neg g_5_40, if_pos g_5_50], rfl⟩
  by_cases g_5_68 : (kA n fk k) = 11
  · skip
    refine sm_tab (tgt := 68) hx hb d_Liv_setBehind_5 (by rw [g_5_68]; decide) ?_
    refine lv_iconst (v := 0) hx hb d_Liv_setBehind_68 (by decide) ?_
    refine sm_ri (v := (0 : Int32)) (ws := [(lv, .inr (1, [.ref lf, .int stl])), (lf, .inl (cI, 61, .inl ff)), (r, .inr (0, [.ref rk, .ref ra, .ref rb, .ref rc, .int (nI n)])), (rk, .inl (cI, 60, .inl fk)), (ra, .inl (cI, 60, .inl fa)), (rb, .inl (cI, 60, .inl fb)), (rc, .inl (cI, 60, .inl fc))]) hx hb hr hlocks hK (hP.sub [0, 1, 2, 3, 4, 5, 6] rfl) (hD.sub [0, 1, 2, 3, 4, 5, 6] (by decide) rfl) hS ?_ d_Liv_setBehind_69
    exact ⟨by simp only [sBh, if_neg g_5_40, if_neg g_5_50, if_pos g_5_68], rfl⟩
  refine sm_tab (tgt := 70) hx hb d_Liv_setBehind_5 (sm_tabD [7, 8, 11] ⟨fun z => g_5_40 (z), fun z => g_5_50 (z), fun z => g_5_68 (z), trivial⟩ (by decide) (by decide)) ?_
  refine lv_aload_n hx hb d_Liv_setBehind_70 rfl (lv_at hl 0 rfl) ?_
  refine lv_iload_n hx hb d_Liv_setBehind_71 rfl (lv_at hl 2 rfl) ?_
  refine lv_iconst (v := 1) hx hb d_Liv_setBehind_72 (by decide) ?_
  refine lv_iadd hx hb d_Liv_setBehind_73 ?_
  refine sm_goi (wc := [(lv, .inr (1, [.ref lf, .int stl])), (lf, .inl (cI, 61, .inl ff))]) (wr := [(r, .inr (0, [.ref rk, .ref ra, .ref rb, .ref rc, .int (nI n)])), (rk, .inl (cI, 60, .inl fk)), (ra, .inl (cI, 60, .inl fa)), (rb, .inl (cI, 60, .inl fb)), (rc, .inl (cI, 60, .inl fc))]) (va_runV (As := [.int (k + ((1 : Int32)))]) (rest := []) ⟨hx, hb, hml, hown, ht⟩ ((c_Liv_setAhead (l := l) (dC := dC) (dI := dI) (cI := cI) (cZ := cZ) (lv := lv) (lf := lf) (ff := ff) (stl := stl) (k := k + ((1 : Int32))) ).at H.size) (sm_cV 1 ht mw_242 mw_3 mw_239 mw_241 mp_4 rfl rfl (by decide +kernel) ⟨Nat.le_of_ble_eq_true rfl, Nat.le_of_ble_eq_true rfl⟩) (sm_preV (ci := 1) hN hK hP hD [0, 1] rfl rfl (by decide) 0 rfl rfl) rfl rfl hl.1 rfl (lv_room (Nat.le_of_ble_eq_true rfl)) d_Liv_setBehind_74 ⟨Nat.zero_le _, Nat.zero_le _⟩) hP hD hS hA [0, 1] [2, 3, 4, 5, 6] rfl rfl (by decide) (by decide) (fun r_74 w_74 H locs q_74 hP hD hS => ?_)
  obtain ⟨rfl, rfl⟩ := q_74
  have hP : va_P (dC, dI) smC [(r, .inr (0, [.ref rk, .ref ra, .ref rb, .ref rc, .int (nI n)])), (rk, .inl (cI, 60, .inl fk)), (ra, .inl (cI, 60, .inl fa)), (rb, .inl (cI, 60, .inl fb)), (rc, .inl (cI, 60, .inl fc)), (lv, .inr (1, [.ref lf, .int stl])), (lf, .inl (cI, 61, .inl ff))] H := hP
  have hD : va_D A [(r, .inr (0, [.ref rk, .ref ra, .ref rb, .ref rc, .int (nI n)])), (rk, .inl (cI, 60, .inl fk)), (ra, .inl (cI, 60, .inl fa)), (rb, .inl (cI, 60, .inl fb)), (rc, .inl (cI, 60, .inl fc)), (lv, .inr (1, [.ref lf, .int stl])), (lf, .inl (cI, 61, .inl ff))] := hD
  refine sm_ri (v := sH ff (k + ((1 : Int32)))) (ws := [(lv, .inr (1, [.ref lf, .int stl])), (lf, .inl (cI, 61, .inl ff)), (r, .inr (0, [.ref rk, .ref ra, .ref rb, .ref rc, .int (nI n)])), (rk, .inl (cI, 60, .inl fk)), (ra, .inl (cI, 60, .inl fa)), (rb, .inl (cI, 60, .inl fb)), (rc, .inl (cI, 60, .inl fc))]) hx hb hr hlocks hK (hP.sub [5, 6, 0, 1, 2, 3, 4] rfl) (hD.sub [5, 6, 0, 1, 2, 3, 4] (by decide) rfl) hS ?_ d_Liv_setBehind_77
  exact ⟨by simp only [sBh, if_neg g_5_40, if_neg g_5_50, if_neg g_5_68], rfl⟩
abbrev y_Liv_sweep : MethodName := ⟨"ScanMill$Liveness", "sweep", "(LScanMill$Row;)Z"⟩
theorem d_Liv_sweep_0 : decode prog_2_method_5_code 0 = .ok (.iconst 0, 1) := by decide +kernel
theorem d_Liv_sweep_1 : decode prog_2_method_5_code 1 = .ok (.istore_n 2, 1) := by decide +kernel
theorem d_Liv_sweep_2 : decode prog_2_method_5_code 2 = .ok (.aload_n 1, 1) := by decide +kernel
theorem d_Liv_sweep_3 : decode prog_2_method_5_code 3 = .ok (.invokevirtual 36, 3) := by decide +kernel
theorem mw_182 : Cond.code ⟨"ScanMill$Row", "size", "()I"⟩ prog_5_method_2_code 1 (Option.some FieldType.int) ∈ wG := wG_t 182 (by decide +kernel) (by decide +kernel)
theorem mw_206 : Cond.methodLink "ScanMill$Liveness" 36 ⟨"ScanMill$Row", "size", "()I"⟩ ∈ wG := wG_t 206 (by decide +kernel) (by decide +kernel)
theorem mw_180 : Cond.instanceMethod ⟨"ScanMill$Row", "size", "()I"⟩ ∈ wG := wG_t 180 (by decide +kernel) (by decide +kernel)
theorem mw_181 : Cond.selects "ScanMill$Row" ⟨"ScanMill$Row", "size", "()I"⟩ ⟨"ScanMill$Row", "size", "()I"⟩ ∈ wG := wG_t 181 (by decide +kernel) (by decide +kernel)
theorem d_Liv_sweep_6 : decode prog_2_method_5_code 6 = .ok (.bipush 60, 2) := by decide +kernel
theorem d_Liv_sweep_8 : decode prog_2_method_5_code 8 = .ok (.invokestatic 42, 3) := by decide +kernel
theorem mw_207 : Cond.methodLink "ScanMill$Liveness" 42 ⟨"java/lang/Math", "min", "(II)I"⟩ ∈ wG := wG_t 207 (by decide +kernel) (by decide +kernel)
theorem mw_208 : Cond.static ⟨"java/lang/Math", "min", "(II)I"⟩ ∈ wG := wG_t 208 (by decide +kernel) (by decide +kernel)
theorem mw_8 : Cond.initialized "java/lang/Math" ∈ wG := wG_t 8 (by decide +kernel) (by decide +kernel)
theorem mw_209 : Cond.code ⟨"java/lang/Math", "min", "(II)I"⟩ prog_11_method_69_code 2 (Option.some FieldType.int) ∈ wG := wG_t 209 (by decide +kernel) (by decide +kernel)
theorem d_Liv_sweep_11 : decode prog_2_method_5_code 11 = .ok (.iconst 1, 1) := by decide +kernel
theorem d_Liv_sweep_12 : decode prog_2_method_5_code 12 = .ok (.isub, 1) := by decide +kernel
theorem d_Liv_sweep_13 : decode prog_2_method_5_code 13 = .ok (.istore_n 3, 1) := by decide +kernel
theorem d_Liv_sweep_14 : decode prog_2_method_5_code 14 = .ok (.iload_n 3, 1) := by decide +kernel
theorem d_Liv_sweep_15 : decode prog_2_method_5_code 15 = .ok (.ifCond .lt 71, 3) := by decide +kernel
theorem d_Liv_sweep_86 : decode prog_2_method_5_code 86 = .ok (.iload_n 2, 1) := by decide +kernel
theorem d_Liv_sweep_87 : decode prog_2_method_5_code 87 = .ok (.ireturn, 1) := by decide +kernel
theorem d_Liv_sweep_18 : decode prog_2_method_5_code 18 = .ok (.aload_n 1, 1) := by decide +kernel
theorem d_Liv_sweep_19 : decode prog_2_method_5_code 19 = .ok (.iload_n 3, 1) := by decide +kernel
theorem d_Liv_sweep_20 : decode prog_2_method_5_code 20 = .ok (.invokevirtual 48, 3) := by decide +kernel
theorem mw_213 : Cond.code ⟨"ScanMill$Row", "leftAt", "(I)I"⟩ prog_5_method_8_code 2 (Option.some FieldType.int) ∈ wG := wG_t 213 (by decide +kernel) (by decide +kernel)
theorem mw_210 : Cond.methodLink "ScanMill$Liveness" 48 ⟨"ScanMill$Row", "leftAt", "(I)I"⟩ ∈ wG := wG_t 210 (by decide +kernel) (by decide +kernel)
theorem mw_211 : Cond.instanceMethod ⟨"ScanMill$Row", "leftAt", "(I)I"⟩ ∈ wG := wG_t 211 (by decide +kernel) (by decide +kernel)
theorem mw_212 : Cond.selects "ScanMill$Row" ⟨"ScanMill$Row", "leftAt", "(I)I"⟩ ⟨"ScanMill$Row", "leftAt", "(I)I"⟩ ∈ wG := wG_t 212 (by decide +kernel) (by decide +kernel)
theorem d_Liv_sweep_23 : decode prog_2_method_5_code 23 = .ok (.invokestatic 23, 3) := by decide +kernel
theorem d_Liv_sweep_26 : decode prog_2_method_5_code 26 = .ok (.aload_n 1, 1) := by decide +kernel
theorem d_Liv_sweep_27 : decode prog_2_method_5_code 27 = .ok (.iload_n 3, 1) := by decide +kernel
theorem d_Liv_sweep_28 : decode prog_2_method_5_code 28 = .ok (.invokevirtual 51, 3) := by decide +kernel
theorem mw_229 : Cond.code ⟨"ScanMill$Row", "rightAt", "(I)I"⟩ prog_5_method_9_code 2 (Option.some FieldType.int) ∈ wG := wG_t 229 (by decide +kernel) (by decide +kernel)
theorem mw_226 : Cond.methodLink "ScanMill$Liveness" 51 ⟨"ScanMill$Row", "rightAt", "(I)I"⟩ ∈ wG := wG_t 226 (by decide +kernel) (by decide +kernel)
theorem mw_227 : Cond.instanceMethod ⟨"ScanMill$Row", "rightAt", "(I)I"⟩ ∈ wG := wG_t 227 (by decide +kernel) (by decide +kernel)
theorem mw_228 : Cond.selects "ScanMill$Row" ⟨"ScanMill$Row", "rightAt", "(I)I"⟩ ⟨"ScanMill$Row", "rightAt", "(I)I"⟩ ∈ wG := wG_t 228 (by decide +kernel) (by decide +kernel)
theorem d_Liv_sweep_31 : decode prog_2_method_5_code 31 = .ok (.invokestatic 23, 3) := by decide +kernel
theorem d_Liv_sweep_34 : decode prog_2_method_5_code 34 = .ok (.ior, 1) := by decide +kernel
theorem d_Liv_sweep_35 : decode prog_2_method_5_code 35 = .ok (.istore 4, 2) := by decide +kernel
theorem d_Liv_sweep_37 : decode prog_2_method_5_code 37 = .ok (.iload 4, 2) := by decide +kernel
theorem d_Liv_sweep_39 : decode prog_2_method_5_code 39 = .ok (.aload_n 0, 1) := by decide +kernel
theorem d_Liv_sweep_40 : decode prog_2_method_5_code 40 = .ok (.aload_n 1, 1) := by decide +kernel
theorem d_Liv_sweep_41 : decode prog_2_method_5_code 41 = .ok (.iload_n 3, 1) := by decide +kernel
theorem d_Liv_sweep_42 : decode prog_2_method_5_code 42 = .ok (.invokevirtual 54, 3) := by decide +kernel
theorem mw_233 : Cond.code ⟨"ScanMill$Liveness", "setBehind", "(LScanMill$Row;I)I"⟩ prog_2_method_6_code 3 (Option.some FieldType.int) ∈ wG := wG_t 233 (by decide +kernel) (by decide +kernel)
theorem mw_230 : Cond.methodLink "ScanMill$Liveness" 54 ⟨"ScanMill$Liveness", "setBehind", "(LScanMill$Row;I)I"⟩ ∈ wG := wG_t 230 (by decide +kernel) (by decide +kernel)
theorem mw_232 : Cond.instanceMethod ⟨"ScanMill$Liveness", "setBehind", "(LScanMill$Row;I)I"⟩ ∈ wG := wG_t 232 (by decide +kernel) (by decide +kernel)
theorem mp_3 : Cond.selects "ScanMill$Liveness" ⟨"ScanMill$Liveness", "setBehind", "(LScanMill$Row;I)I"⟩ ⟨"ScanMill$Liveness", "setBehind", "(LScanMill$Row;I)I"⟩ ∈ wG := wG_p 3 (by decide +kernel) (by decide +kernel)
theorem d_Liv_sweep_45 : decode prog_2_method_5_code 45 = .ok (.aload_n 1, 1) := by decide +kernel
theorem d_Liv_sweep_46 : decode prog_2_method_5_code 46 = .ok (.iload_n 3, 1) := by decide +kernel
theorem d_Liv_sweep_47 : decode prog_2_method_5_code 47 = .ok (.invokevirtual 58, 3) := by decide +kernel
theorem mw_246 : Cond.code ⟨"ScanMill$Row", "setAt", "(I)I"⟩ prog_5_method_7_code 2 (Option.some FieldType.int) ∈ wG := wG_t 246 (by decide +kernel) (by decide +kernel)
theorem mw_243 : Cond.methodLink "ScanMill$Liveness" 58 ⟨"ScanMill$Row", "setAt", "(I)I"⟩ ∈ wG := wG_t 243 (by decide +kernel) (by decide +kernel)
theorem mw_244 : Cond.instanceMethod ⟨"ScanMill$Row", "setAt", "(I)I"⟩ ∈ wG := wG_t 244 (by decide +kernel) (by decide +kernel)
theorem mw_245 : Cond.selects "ScanMill$Row" ⟨"ScanMill$Row", "setAt", "(I)I"⟩ ⟨"ScanMill$Row", "setAt", "(I)I"⟩ ∈ wG := wG_t 245 (by decide +kernel) (by decide +kernel)
theorem d_Liv_sweep_50 : decode prog_2_method_5_code 50 = .ok (.invokestatic 23, 3) := by decide +kernel
theorem d_Liv_sweep_53 : decode prog_2_method_5_code 53 = .ok (.iconst (-1), 1) := by decide +kernel
theorem d_Liv_sweep_54 : decode prog_2_method_5_code 54 = .ok (.ixor, 1) := by decide +kernel
theorem d_Liv_sweep_55 : decode prog_2_method_5_code 55 = .ok (.iand, 1) := by decide +kernel
theorem d_Liv_sweep_56 : decode prog_2_method_5_code 56 = .ok (.ior, 1) := by decide +kernel
theorem d_Liv_sweep_57 : decode prog_2_method_5_code 57 = .ok (.istore 5, 2) := by decide +kernel
theorem d_Liv_sweep_59 : decode prog_2_method_5_code 59 = .ok (.iload 5, 2) := by decide +kernel
theorem d_Liv_sweep_61 : decode prog_2_method_5_code 61 = .ok (.aload_n 0, 1) := by decide +kernel
theorem d_Liv_sweep_62 : decode prog_2_method_5_code 62 = .ok (.getfield 9, 3) := by decide +kernel
theorem d_Liv_sweep_65 : decode prog_2_method_5_code 65 = .ok (.iload_n 3, 1) := by decide +kernel
theorem d_Liv_sweep_66 : decode prog_2_method_5_code 66 = .ok (.iaload, 1) := by decide +kernel
theorem d_Liv_sweep_67 : decode prog_2_method_5_code 67 = .ok (.if_icmp .eq 13, 3) := by decide +kernel
theorem d_Liv_sweep_80 : decode prog_2_method_5_code 80 = .ok (.iinc 3 (-1), 3) := by decide +kernel
theorem d_Liv_sweep_83 : decode prog_2_method_5_code 83 = .ok (.goto (-69), 3) := by decide +kernel
theorem d_Liv_sweep_70 : decode prog_2_method_5_code 70 = .ok (.aload_n 0, 1) := by decide +kernel
theorem d_Liv_sweep_71 : decode prog_2_method_5_code 71 = .ok (.getfield 9, 3) := by decide +kernel
theorem d_Liv_sweep_74 : decode prog_2_method_5_code 74 = .ok (.iload_n 3, 1) := by decide +kernel
theorem d_Liv_sweep_75 : decode prog_2_method_5_code 75 = .ok (.iload 5, 2) := by decide +kernel
theorem d_Liv_sweep_77 : decode prog_2_method_5_code 77 = .ok (.iastore, 1) := by decide +kernel
theorem d_Liv_sweep_78 : decode prog_2_method_5_code 78 = .ok (.iconst 1, 1) := by decide +kernel
theorem d_Liv_sweep_79 : decode prog_2_method_5_code 79 = .ok (.istore_n 2, 1) := by decide +kernel
set_option maxRecDepth 100000 in
set_option maxHeartbeats 4000000 in
theorem c_Liv_sweep {l : Launch} {dC : Nat → ClassId} {dI : Nat → Nat → Nat} {cI cZ : ClassId} {lv lf : Nat} {ff : Nat → Int32} {stl : Int32} {r rk ra rb rc n : Nat} {fk fa fb fc : Nat → Int32} (hn : n ≤ 60) : sm_I l y_Liv_sweep prog_2_method_5_code 6 (some .boolean) (rmF 4 85) (dC, dI) smC [(cI, .int), (cZ, .boolean)] [.ref lv, .ref r] [(lv, .inr (1, [.ref lf, .int stl])), (lf, .inl (cI, 61, .inl ff)), (r, .inr (0, [.ref rk, .ref ra, .ref rb, .ref rc, .int (nI n)])), (rk, .inl (cI, 60, .inl fk)), (ra, .inl (cI, 60, .inl fa)), (rb, .inl (cI, 60, .inl fb)), (rc, .inl (cI, 60, .inl fc))] (fun q w2 => q = ((swp n fk fa fb fc n ff 0).2) ∧ w2 = [(lv, .inr (1, [.ref lf, .int stl])), (lf, .inl (cI, 61, .inl ((swp n fk fa fb fc n ff 0).1))), (r, .inr (0, [.ref rk, .ref ra, .ref rb, .ref rc, .int (nI n)])), (rk, .inl (cI, 60, .inl fk)), (ra, .inl (cI, 60, .inl fa)), (rb, .inl (cI, 60, .inl fb)), (rc, .inl (cI, 60, .inl fc))]) := by
  refine sm_I.mk (by decide) (Nat.le_of_ble_eq_true rfl) ?_
  intro p e s m below meth c A H locs ls hx hb hr ht hown hlocks hml hnm hP hK hD hA hS hN hl
  have hl : lv_has ls 6 [(0, .ref lv), (1, .ref r)] := hl
  refine lv_iconst (v := 0) hx hb d_Liv_sweep_0 (by decide) ?_
  refine lv_istore_n (lv' := [(2, .int ((0 : Int32))), (0, .ref lv), (1, .ref r)]) hx hb d_Liv_sweep_1 rfl hl (by decide) rfl (fun ls hl => ?_)
  refine lv_aload_n hx hb d_Liv_sweep_2 rfl (lv_at hl 2 rfl) ?_
  refine sm_goi (wc := [(r, .inr (0, [.ref rk, .ref ra, .ref rb, .ref rc, .int (nI n)])), (rk, .inl (cI, 60, .inl fk)), (ra, .inl (cI, 60, .inl fa)), (rb, .inl (cI, 60, .inl fb)), (rc, .inl (cI, 60, .inl fc))]) (wr := [(lv, .inr (1, [.ref lf, .int stl])), (lf, .inl (cI, 61, .inl ff))]) (va_runV (As := []) (rest := []) ⟨hx, hb, hml, hown, ht⟩ ((c_Row_size (l := l) (dC := dC) (dI := dI) (cI := cI) (cZ := cZ) (r := r) (rk := rk) (ra := ra) (rb := rb) (rc := rc) (n := n) (fk := fk) (fa := fa) (fb := fb) (fc := fc) ).at H.size) (sm_cV 0 ht mw_182 mw_2 mw_206 mw_180 mw_181 rfl rfl (by decide +kernel) ⟨Nat.le_of_ble_eq_true rfl, Nat.le_of_ble_eq_true rfl⟩) (sm_preV (ci := 0) hN hK hP hD [2, 3, 4, 5, 6] rfl rfl (by decide) 2 rfl rfl) rfl rfl hl.1 rfl (lv_room (Nat.le_of_ble_eq_true rfl)) d_Liv_sweep_3 ⟨Nat.zero_le _, Nat.zero_le _⟩) hP hD hS hA [2, 3, 4, 5, 6] [0, 1] rfl rfl (by decide) (by decide) (fun r_3 w_3 H locs q_3 hP hD hS => ?_)
  obtain ⟨rfl, rfl⟩ := q_3
  have hP : va_P (dC, dI) smC [(lv, .inr (1, [.ref lf, .int stl])), (lf, .inl (cI, 61, .inl ff)), (r, .inr (0, [.ref rk, .ref ra, .ref rb, .ref rc, .int (nI n)])), (rk, .inl (cI, 60, .inl fk)), (ra, .inl (cI, 60, .inl fa)), (rb, .inl (cI, 60, .inl fb)), (rc, .inl (cI, 60, .inl fc))] H := hP
  have hD : va_D A [(lv, .inr (1, [.ref lf, .int stl])), (lf, .inl (cI, 61, .inl ff)), (r, .inr (0, [.ref rk, .ref ra, .ref rb, .ref rc, .int (nI n)])), (rk, .inl (cI, 60, .inl fk)), (ra, .inl (cI, 60, .inl fa)), (rb, .inl (cI, 60, .inl fb)), (rc, .inl (cI, 60, .inl fc))] := hD
  refine lv_bipush (v := 60) hx hb d_Liv_sweep_6 (by decide) ?_
  refine va_mmin hx hb (by rw [hml]; exact hl.1.symm) hown (ht _ mw_207) (ht _ mw_208) (ht _ mw_8) (ht _ mw_209) (Nat.le_of_ble_eq_true rfl) (Nat.le_of_ble_eq_true rfl) (Nat.zero_le _) (Nat.zero_le _) d_Liv_sweep_8 ?_
  refine sm_re (if_neg (nI_nlt (a := 60) (b := n) (by omega) (by decide))) ?_
  refine lv_iconst (v := 1) hx hb d_Liv_sweep_11 (by decide) ?_
  refine lv_isub hx hb d_Liv_sweep_12 ?_
  refine lv_istore_n (lv' := [(3, .int (nI n - 1)), (2, .int ((0 : Int32))), (0, .ref lv), (1, .ref r)]) hx hb d_Liv_sweep_13 rfl hl (by decide) rfl (fun ls hl => ?_)
  have loop_14 : ∀ (N_14 : Nat) (j : Nat) (gg : Nat → Int32) (ch : Int32), (j ≤ n) → (ch = 0 ∨ ch = 1) → (swp n fk fa fb fc j gg ch = swp n fk fa fb fc n ff 0) → j < N_14 → ∀ (H : Heap) (locs : List Loc), va_P (dC, dI) smC [(lv, .inr (1, [.ref lf, .int stl])), (lf, .inl (cI, 61, .inl gg)), (r, .inr (0, [.ref rk, .ref ra, .ref rb, .ref rc, .int (nI n)])), (rk, .inl (cI, 60, .inl fk)), (ra, .inl (cI, 60, .inl fa)), (rb, .inl (cI, 60, .inl fb)), (rc, .inl (cI, 60, .inl fc))] H → va_D A [(lv, .inr (1, [.ref lf, .int stl])), (lf, .inl (cI, 61, .inl gg)), (r, .inr (0, [.ref rk, .ref ra, .ref rb, .ref rc, .int (nI n)])), (rk, .inl (cI, 60, .inl fk)), (ra, .inl (cI, 60, .inl fa)), (rb, .inl (cI, 60, .inl fb)), (rc, .inl (cI, 60, .inl fc))] → va_S A s.heap H locs → ∀ ls : Array Slot, lv_has ls 6 [(0, .ref lv), (1, .ref r), (2, .int ch), (3, .int (nI j - 1))] → W p l e (rmF 4 85) s m ([.ref lv, .ref r] : List Value).toArray below meth c H locs 0 0 (MQ below (va_Qi (fun q w2 => q = ((swp n fk fa fb fc n ff 0).2) ∧ w2 = [(lv, .inr (1, [.ref lf, .int stl])), (lf, .inl (cI, 61, .inl ((swp n fk fa fb fc n ff 0).1))), (r, .inr (0, [.ref rk, .ref ra, .ref rb, .ref rc, .int (nI n)])), (rk, .inl (cI, 60, .inl fk)), (ra, .inl (cI, 60, .inl fa)), (rb, .inl (cI, 60, .inl fb)), (rc, .inl (cI, 60, .inl fc))]) (sm_B (dC, dI) smC [(cI, .int), (cZ, .boolean)] A) A) ([.ref lv, .ref r] : List Value).toArray s 0 0 A) (F0 m 14 ls []) := by
    intro N_14
    induction N_14 with
    | zero => intro j gg ch _ _ _ z; exact absurd z (Nat.not_lt_zero _)
    | succ N_14 ih_14 =>
      intro j gg ch hj h01 hv m_14 H locs hP hD hS ls hl
      refine lv_iload_n hx hb d_Liv_sweep_14 rfl (lv_at hl 3 rfl) ?_
      refine lv_if_lt (tgt := 86) hx hb d_Liv_sweep_15 (by decide) (fun c_15 => ?_) (fun c_15 => ?_)
      · skip
        obtain rfl : j = 0 := sm_pred0 (by omega) c_15
        refine lv_iload_n hx hb d_Liv_sweep_86 rfl (lv_at hl 2 rfl) ?_
        refine sm_rz (v := ch) (ws := [(lv, .inr (1, [.ref lf, .int stl])), (lf, .inl (cI, 61, .inl gg)), (r, .inr (0, [.ref rk, .ref ra, .ref rb, .ref rc, .int (nI n)])), (rk, .inl (cI, 60, .inl fk)), (ra, .inl (cI, 60, .inl fa)), (rb, .inl (cI, 60, .inl fb)), (rc, .inl (cI, 60, .inl fc))]) hx hb hr hlocks hK (hP.sub [0, 1, 2, 3, 4, 5, 6] rfl) (hD.sub [0, 1, 2, 3, 4, 5, 6] (by decide) rfl) hS h01 ?_ d_Liv_sweep_87
        exact ⟨by rw [← hv]; rfl, by rw [← hv]; rfl⟩
      · skip
        obtain ⟨i, rfl⟩ := sm_pred c_15
        rw [nI_pred] at hl
        refine lv_aload_n hx hb d_Liv_sweep_18 rfl (lv_at hl 1 rfl) ?_
        refine lv_iload_n hx hb d_Liv_sweep_19 rfl (lv_at hl 3 rfl) ?_
        refine sm_goi (wc := [(r, .inr (0, [.ref rk, .ref ra, .ref rb, .ref rc, .int (nI n)])), (rk, .inl (cI, 60, .inl fk)), (ra, .inl (cI, 60, .inl fa)), (rb, .inl (cI, 60, .inl fb)), (rc, .inl (cI, 60, .inl fc))]) (wr := [(lv, .inr (1, [.ref lf, .int stl])), (lf, .inl (cI, 61, .inl gg))]) (va_runV (As := [.int (nI i)]) (rest := []) ⟨hx, hb, hml, hown, ht⟩ ((c_Row_leftAt (l := l) (dC := dC) (dI := dI) (cI := cI) (cZ := cZ) (r := r) (rk := rk) (ra := ra) (rb := rb) (rc := rc) (n := n) (fk := fk) (fa := fa) (fb := fb) (fc := fc) (k := nI i) (by first | assumption | omega)).at H.size) (sm_cV 1 ht mw_213 mw_2 mw_210 mw_211 mw_212 rfl rfl (by decide +kernel) ⟨Nat.le_of_ble_eq_true rfl, Nat.le_of_ble_eq_true rfl⟩) (sm_preV (ci := 0) hN hK hP hD [2, 3, 4, 5, 6] rfl rfl (by decide) 2 rfl rfl) rfl rfl hl.1 rfl (lv_room (Nat.le_of_ble_eq_true rfl)) d_Liv_sweep_20 ⟨Nat.zero_le _, Nat.zero_le _⟩) hP hD hS hA [2, 3, 4, 5, 6] [0, 1] rfl rfl (by decide) (by decide) (fun r_20 w_20 H locs q_20 hP hD hS => ?_)
        obtain ⟨rfl, rfl⟩ := q_20
        have hP : va_P (dC, dI) smC [(lv, .inr (1, [.ref lf, .int stl])), (lf, .inl (cI, 61, .inl gg)), (r, .inr (0, [.ref rk, .ref ra, .ref rb, .ref rc, .int (nI n)])), (rk, .inl (cI, 60, .inl fk)), (ra, .inl (cI, 60, .inl fa)), (rb, .inl (cI, 60, .inl fb)), (rc, .inl (cI, 60, .inl fc))] H := hP
        have hD : va_D A [(lv, .inr (1, [.ref lf, .int stl])), (lf, .inl (cI, 61, .inl gg)), (r, .inr (0, [.ref rk, .ref ra, .ref rb, .ref rc, .int (nI n)])), (rk, .inl (cI, 60, .inl fk)), (ra, .inl (cI, 60, .inl fa)), (rb, .inl (cI, 60, .inl fb)), (rc, .inl (cI, 60, .inl fc))] := hD
        refine sm_goi (wc := []) (wr := [(lv, .inr (1, [.ref lf, .int stl])), (lf, .inl (cI, 61, .inl gg)), (r, .inr (0, [.ref rk, .ref ra, .ref rb, .ref rc, .int (nI n)])), (rk, .inl (cI, 60, .inl fk)), (ra, .inl (cI, 60, .inl fa)), (rb, .inl (cI, 60, .inl fb)), (rc, .inl (cI, 60, .inl fc))]) (va_runS (As := [.int (lA n fk fa fb (nI i))]) (rest := []) ⟨hx, hb, hml, hown, ht⟩ ((c_Liv_bit (l := l) (dC := dC) (dI := dI) (cI := cI) (cZ := cZ) (v := lA n fk fa fb (nI i)) ).at H.size) (sm_cS 1 ht mw_224 mw_3 mw_222 mw_223 rfl rfl (by decide +kernel) ⟨Nat.le_of_ble_eq_true rfl, Nat.le_of_ble_eq_true rfl⟩) (sm_preS hN hK hP hD [] rfl rfl (by decide)) rfl rfl hl.1 rfl (lv_room (Nat.le_of_ble_eq_true rfl)) d_Liv_sweep_23 ⟨Nat.zero_le _, Nat.zero_le _⟩) hP hD hS hA [] [0, 1, 2, 3, 4, 5, 6] rfl rfl (by decide) (by decide) (fun r_23 w_23 H locs q_23 hP hD hS => ?_)
        obtain ⟨rfl, rfl⟩ := q_23
        have hP : va_P (dC, dI) smC [(lv, .inr (1, [.ref lf, .int stl])), (lf, .inl (cI, 61, .inl gg)), (r, .inr (0, [.ref rk, .ref ra, .ref rb, .ref rc, .int (nI n)])), (rk, .inl (cI, 60, .inl fk)), (ra, .inl (cI, 60, .inl fa)), (rb, .inl (cI, 60, .inl fb)), (rc, .inl (cI, 60, .inl fc))] H := hP
        have hD : va_D A [(lv, .inr (1, [.ref lf, .int stl])), (lf, .inl (cI, 61, .inl gg)), (r, .inr (0, [.ref rk, .ref ra, .ref rb, .ref rc, .int (nI n)])), (rk, .inl (cI, 60, .inl fk)), (ra, .inl (cI, 60, .inl fa)), (rb, .inl (cI, 60, .inl fb)), (rc, .inl (cI, 60, .inl fc))] := hD
        refine lv_aload_n hx hb d_Liv_sweep_26 rfl (lv_at hl 1 rfl) ?_
        refine lv_iload_n hx hb d_Liv_sweep_27 rfl (lv_at hl 3 rfl) ?_
        refine sm_goi (wc := [(r, .inr (0, [.ref rk, .ref ra, .ref rb, .ref rc, .int (nI n)])), (rk, .inl (cI, 60, .inl fk)), (ra, .inl (cI, 60, .inl fa)), (rb, .inl (cI, 60, .inl fb)), (rc, .inl (cI, 60, .inl fc))]) (wr := [(lv, .inr (1, [.ref lf, .int stl])), (lf, .inl (cI, 61, .inl gg))]) (va_runV (As := [.int (nI i)]) (rest := [.int (bitV (lA n fk fa fb (nI i)))]) ⟨hx, hb, hml, hown, ht⟩ ((c_Row_rightAt (l := l) (dC := dC) (dI := dI) (cI := cI) (cZ := cZ) (r := r) (rk := rk) (ra := ra) (rb := rb) (rc := rc) (n := n) (fk := fk) (fa := fa) (fb := fb) (fc := fc) (k := nI i) (by first | assumption | omega)).at H.size) (sm_cV 1 ht mw_229 mw_2 mw_226 mw_227 mw_228 rfl rfl (by decide +kernel) ⟨Nat.le_of_ble_eq_true rfl, Nat.le_of_ble_eq_true rfl⟩) (sm_preV (ci := 0) hN hK hP hD [2, 3, 4, 5, 6] rfl rfl (by decide) 2 rfl rfl) rfl rfl hl.1 rfl (lv_room (Nat.le_of_ble_eq_true rfl)) d_Liv_sweep_28 ⟨Nat.zero_le _, Nat.zero_le _⟩) hP hD hS hA [2, 3, 4, 5, 6] [0, 1] rfl rfl (by decide) (by decide) (fun r_28 w_28 H locs q_28 hP hD hS => ?_)
        obtain ⟨rfl, rfl⟩ := q_28
        have hP : va_P (dC, dI) smC [(lv, .inr (1, [.ref lf, .int stl])), (lf, .inl (cI, 61, .inl gg)), (r, .inr (0, [.ref rk, .ref ra, .ref rb, .ref rc, .int (nI n)])), (rk, .inl (cI, 60, .inl fk)), (ra, .inl (cI, 60, .inl fa)), (rb, .inl (cI, 60, .inl fb)), (rc, .inl (cI, 60, .inl fc))] H := hP
        have hD : va_D A [(lv, .inr (1, [.ref lf, .int stl])), (lf, .inl (cI, 61, .inl gg)), (r, .inr (0, [.ref rk, .ref ra, .ref rb, .ref rc, .int (nI n)])), (rk, .inl (cI, 60, .inl fk)), (ra, .inl (cI, 60, .inl fa)), (rb, .inl (cI, 60, .inl fb)), (rc, .inl (cI, 60, .inl fc))] := hD
        refine sm_goi (wc := []) (wr := [(lv, .inr (1, [.ref lf, .int stl])), (lf, .inl (cI, 61, .inl gg)), (r, .inr (0, [.ref rk, .ref ra, .ref rb, .ref rc, .int (nI n)])), (rk, .inl (cI, 60, .inl fk)), (ra, .inl (cI, 60, .inl fa)), (rb, .inl (cI, 60, .inl fb)), (rc, .inl (cI, 60, .inl fc))]) (va_runS (As := [.int (rA n fk fc (nI i))]) (rest := [.int (bitV (lA n fk fa fb (nI i)))]) ⟨hx, hb, hml, hown, ht⟩ ((c_Liv_bit (l := l) (dC := dC) (dI := dI) (cI := cI) (cZ := cZ) (v := rA n fk fc (nI i)) ).at H.size) (sm_cS 1 ht mw_224 mw_3 mw_222 mw_223 rfl rfl (by decide +kernel) ⟨Nat.le_of_ble_eq_true rfl, Nat.le_of_ble_eq_true rfl⟩) (sm_preS hN hK hP hD [] rfl rfl (by decide)) rfl rfl hl.1 rfl (lv_room (Nat.le_of_ble_eq_true rfl)) d_Liv_sweep_31 ⟨Nat.zero_le _, Nat.zero_le _⟩) hP hD hS hA [] [0, 1, 2, 3, 4, 5, 6] rfl rfl (by decide) (by decide) (fun r_31 w_31 H locs q_31 hP hD hS => ?_)
        obtain ⟨rfl, rfl⟩ := q_31
        have hP : va_P (dC, dI) smC [(lv, .inr (1, [.ref lf, .int stl])), (lf, .inl (cI, 61, .inl gg)), (r, .inr (0, [.ref rk, .ref ra, .ref rb, .ref rc, .int (nI n)])), (rk, .inl (cI, 60, .inl fk)), (ra, .inl (cI, 60, .inl fa)), (rb, .inl (cI, 60, .inl fb)), (rc, .inl (cI, 60, .inl fc))] H := hP
        have hD : va_D A [(lv, .inr (1, [.ref lf, .int stl])), (lf, .inl (cI, 61, .inl gg)), (r, .inr (0, [.ref rk, .ref ra, .ref rb, .ref rc, .int (nI n)])), (rk, .inl (cI, 60, .inl fk)), (ra, .inl (cI, 60, .inl fa)), (rb, .inl (cI, 60, .inl fb)), (rc, .inl (cI, 60, .inl fc))] := hD
        refine lv_ior hx hb d_Liv_sweep_34 ?_
        refine lv_istore (lv' := [(4, .int ((bitV (lA n fk fa fb (nI i))) ||| (bitV (rA n fk fc (nI i))))), (0, .ref lv), (1, .ref r), (2, .int ch), (3, .int (nI i))]) hx hb d_Liv_sweep_35 hl (by decide) rfl (fun ls hl => ?_)
        refine lv_iload hx hb d_Liv_sweep_37 (lv_at hl 0 rfl) ?_
        refine lv_aload_n hx hb d_Liv_sweep_39 rfl (lv_at hl 1 rfl) ?_
        refine lv_aload_n hx hb d_Liv_sweep_40 rfl (lv_at hl 2 rfl) ?_
        refine lv_iload_n hx hb d_Liv_sweep_41 rfl (lv_at hl 4 rfl) ?_
        refine sm_goi (wc := [(lv, .inr (1, [.ref lf, .int stl])), (lf, .inl (cI, 61, .inl gg)), (r, .inr (0, [.ref rk, .ref ra, .ref rb, .ref rc, .int (nI n)])), (rk, .inl (cI, 60, .inl fk)), (ra, .inl (cI, 60, .inl fa)), (rb, .inl (cI, 60, .inl fb)), (rc, .inl (cI, 60, .inl fc))]) (wr := []) (va_runV (As := [.ref r, .int (nI i)]) (rest := [.int ((bitV (lA n fk fa fb (nI i))) ||| (bitV (rA n fk fc (nI i))))]) ⟨hx, hb, hml, hown, ht⟩ ((c_Liv_setBehind (l := l) (dC := dC) (dI := dI) (cI := cI) (cZ := cZ) (lv := lv) (lf := lf) (ff := gg) (stl := stl) (r := r) (rk := rk) (ra := ra) (rb := rb) (rc := rc) (n := n) (fk := fk) (fa := fa) (fb := fb) (fc := fc) (k := nI i) (by first | assumption | omega)).at H.size) (sm_cV 2 ht mw_233 mw_3 mw_230 mw_232 mp_3 rfl rfl (by decide +kernel) ⟨Nat.le_of_ble_eq_true rfl, Nat.le_of_ble_eq_true rfl⟩) (sm_preV (ci := 1) hN hK hP hD [0, 1, 2, 3, 4, 5, 6] rfl rfl (by decide) 0 rfl rfl) rfl rfl hl.1 rfl (lv_room (Nat.le_of_ble_eq_true rfl)) d_Liv_sweep_42 ⟨Nat.zero_le _, Nat.zero_le _⟩) hP hD hS hA [0, 1, 2, 3, 4, 5, 6] [] rfl rfl (by decide) (by decide) (fun r_42 w_42 H locs q_42 hP hD hS => ?_)
        obtain ⟨rfl, rfl⟩ := q_42
        have hP : va_P (dC, dI) smC [(lv, .inr (1, [.ref lf, .int stl])), (lf, .inl (cI, 61, .inl gg)), (r, .inr (0, [.ref rk, .ref ra, .ref rb, .ref rc, .int (nI n)])), (rk, .inl (cI, 60, .inl fk)), (ra, .inl (cI, 60, .inl fa)), (rb, .inl (cI, 60, .inl fb)), (rc, .inl (cI, 60, .inl fc))] H := hP
        have hD : va_D A [(lv, .inr (1, [.ref lf, .int stl])), (lf, .inl (cI, 61, .inl gg)), (r, .inr (0, [.ref rk, .ref ra, .ref rb, .ref rc, .int (nI n)])), (rk, .inl (cI, 60, .inl fk)), (ra, .inl (cI, 60, .inl fa)), (rb, .inl (cI, 60, .inl fb)), (rc, .inl (cI, 60, .inl fc))] := hD
        refine lv_aload_n hx hb d_Liv_sweep_45 rfl (lv_at hl 2 rfl) ?_
        refine lv_iload_n hx hb d_Liv_sweep_46 rfl (lv_at hl 4 rfl) ?_
        refine sm_goi (wc := [(r, .inr (0, [.ref rk, .ref ra, .ref rb, .ref rc, .int (nI n)])), (rk, .inl (cI, 60, .inl fk)), (ra, .inl (cI, 60, .inl fa)), (rb, .inl (cI, 60, .inl fb)), (rc, .inl (cI, 60, .inl fc))]) (wr := [(lv, .inr (1, [.ref lf, .int stl])), (lf, .inl (cI, 61, .inl gg))]) (va_runV (As := [.int (nI i)]) (rest := [.int (sBh n fk fa fb gg (nI i)), .int ((bitV (lA n fk fa fb (nI i))) ||| (bitV (rA n fk fc (nI i))))]) ⟨hx, hb, hml, hown, ht⟩ ((c_Row_setAt (l := l) (dC := dC) (dI := dI) (cI := cI) (cZ := cZ) (r := r) (rk := rk) (ra := ra) (rb := rb) (rc := rc) (n := n) (fk := fk) (fa := fa) (fb := fb) (fc := fc) (k := nI i) (by first | assumption | omega)).at H.size) (sm_cV 1 ht mw_246 mw_2 mw_243 mw_244 mw_245 rfl rfl (by decide +kernel) ⟨Nat.le_of_ble_eq_true rfl, Nat.le_of_ble_eq_true rfl⟩) (sm_preV (ci := 0) hN hK hP hD [2, 3, 4, 5, 6] rfl rfl (by decide) 2 rfl rfl) rfl rfl hl.1 rfl (lv_room (Nat.le_of_ble_eq_true rfl)) d_Liv_sweep_47 ⟨Nat.zero_le _, Nat.zero_le _⟩) hP hD hS hA [2, 3, 4, 5, 6] [0, 1] rfl rfl (by decide) (by decide) (fun r_47 w_47 H locs q_47 hP hD hS => ?_)
        obtain ⟨rfl, rfl⟩ := q_47
        have hP : va_P (dC, dI) smC [(lv, .inr (1, [.ref lf, .int stl])), (lf, .inl (cI, 61, .inl gg)), (r, .inr (0, [.ref rk, .ref ra, .ref rb, .ref rc, .int (nI n)])), (rk, .inl (cI, 60, .inl fk)), (ra, .inl (cI, 60, .inl fa)), (rb, .inl (cI, 60, .inl fb)), (rc, .inl (cI, 60, .inl fc))] H := hP
        have hD : va_D A [(lv, .inr (1, [.ref lf, .int stl])), (lf, .inl (cI, 61, .inl gg)), (r, .inr (0, [.ref rk, .ref ra, .ref rb, .ref rc, .int (nI n)])), (rk, .inl (cI, 60, .inl fk)), (ra, .inl (cI, 60, .inl fa)), (rb, .inl (cI, 60, .inl fb)), (rc, .inl (cI, 60, .inl fc))] := hD
        refine sm_goi (wc := []) (wr := [(lv, .inr (1, [.ref lf, .int stl])), (lf, .inl (cI, 61, .inl gg)), (r, .inr (0, [.ref rk, .ref ra, .ref rb, .ref rc, .int (nI n)])), (rk, .inl (cI, 60, .inl fk)), (ra, .inl (cI, 60, .inl fa)), (rb, .inl (cI, 60, .inl fb)), (rc, .inl (cI, 60, .inl fc))]) (va_runS (As := [.int (sA n fk fa (nI i))]) (rest := [.int (sBh n fk fa fb gg (nI i)), .int ((bitV (lA n fk fa fb (nI i))) ||| (bitV (rA n fk fc (nI i))))]) ⟨hx, hb, hml, hown, ht⟩ ((c_Liv_bit (l := l) (dC := dC) (dI := dI) (cI := cI) (cZ := cZ) (v := sA n fk fa (nI i)) ).at H.size) (sm_cS 1 ht mw_224 mw_3 mw_222 mw_223 rfl rfl (by decide +kernel) ⟨Nat.le_of_ble_eq_true rfl, Nat.le_of_ble_eq_true rfl⟩) (sm_preS hN hK hP hD [] rfl rfl (by decide)) rfl rfl hl.1 rfl (lv_room (Nat.le_of_ble_eq_true rfl)) d_Liv_sweep_50 ⟨Nat.zero_le _, Nat.zero_le _⟩) hP hD hS hA [] [0, 1, 2, 3, 4, 5, 6] rfl rfl (by decide) (by decide) (fun r_50 w_50 H locs q_50 hP hD hS => ?_)
        obtain ⟨rfl, rfl⟩ := q_50
        have hP : va_P (dC, dI) smC [(lv, .inr (1, [.ref lf, .int stl])), (lf, .inl (cI, 61, .inl gg)), (r, .inr (0, [.ref rk, .ref ra, .ref rb, .ref rc, .int (nI n)])), (rk, .inl (cI, 60, .inl fk)), (ra, .inl (cI, 60, .inl fa)), (rb, .inl (cI, 60, .inl fb)), (rc, .inl (cI, 60, .inl fc))] H := hP
        have hD : va_D A [(lv, .inr (1, [.ref lf, .int stl])), (lf, .inl (cI, 61, .inl gg)), (r, .inr (0, [.ref rk, .ref ra, .ref rb, .ref rc, .int (nI n)])), (rk, .inl (cI, 60, .inl fk)), (ra, .inl (cI, 60, .inl fa)), (rb, .inl (cI, 60, .inl fb)), (rc, .inl (cI, 60, .inl fc))] := hD
        refine lv_iconst (v := -1) hx hb d_Liv_sweep_53 (by decide) ?_
        refine lv_ixor hx hb d_Liv_sweep_54 ?_
        refine lv_iand hx hb d_Liv_sweep_55 ?_
        refine lv_ior hx hb d_Liv_sweep_56 ?_
        refine lv_istore (lv' := [(5, .int (((bitV (lA n fk fa fb (nI i))) ||| (bitV (rA n fk fc (nI i)))) ||| ((sBh n fk fa fb gg (nI i)) &&& ((bitV (sA n fk fa (nI i))) ^^^ ((-1 : Int32)))))), (4, .int ((bitV (lA n fk fa fb (nI i))) ||| (bitV (rA n fk fc (nI i))))), (0, .ref lv), (1, .ref r), (2, .int ch), (3, .int (nI i))]) hx hb d_Liv_sweep_57 hl (by decide) rfl (fun ls hl => ?_)
        refine lv_iload hx hb d_Liv_sweep_59 (lv_at hl 0 rfl) ?_
        refine lv_aload_n hx hb d_Liv_sweep_61 rfl (lv_at hl 2 rfl) ?_
        refine va_get (D := (dC, dI)) (ci := 1) (v := .ref lf) (C := R_Liv) (T := T_Liv) (N := 2) hx hb ht i_Liv hown hK hP 0 rfl rfl 0 (by decide) (ht _ mw_52) (fun _ h9 => h9) rfl d_Liv_sweep_62 ?_
        refine lv_iload_n hx hb d_Liv_sweep_65 rfl (lv_at hl 5 rfl) ?_
        refine sm_iald (j := i) hx hb hK hP 1 0 rfl rfl (vp_in_nI (by first | omega | assumption) (by first | decide | omega)) (nI_clamp (by first | omega | (have := sm_lt31; omega))) d_Liv_sweep_66 ?_
        refine lv_icmp_eq (tgt := 80) hx hb d_Liv_sweep_67 (by decide) (fun c_67 => ?_) (fun c_67 => ?_)
        · skip
          refine lv_iinc (v := nI i - 1) (lv' := [(3, .int (nI i - 1)), (5, .int (((bitV (lA n fk fa fb (nI i))) ||| (bitV (rA n fk fc (nI i)))) ||| ((sBh n fk fa fb gg (nI i)) &&& ((bitV (sA n fk fa (nI i))) ^^^ ((-1 : Int32)))))), (4, .int ((bitV (lA n fk fa fb (nI i))) ||| (bitV (rA n fk fc (nI i))))), (0, .ref lv), (1, .ref r), (2, .int ch)]) hx hb d_Liv_sweep_80 hl (k := 5) rfl (sm_dec _) (by decide) rfl (fun ls hl => ?_)
          refine lv_goto (tgt := 14) hx hb d_Liv_sweep_83 (by decide) ?_
          exact ih_14 i gg ch (by omega) h01 (by rw [← hv, swp]; exact (if_pos c_67).symm) (by omega) _ _ (hP.sub [0, 1, 2, 3, 4, 5, 6] rfl) (hD.sub [0, 1, 2, 3, 4, 5, 6] (by decide) rfl) hS _ (lv_sub hl [3, 4, 5, 0] rfl)
        · skip
          refine lv_aload_n hx hb d_Liv_sweep_70 rfl (lv_at hl 2 rfl) ?_
          refine va_get (D := (dC, dI)) (ci := 1) (v := .ref lf) (C := R_Liv) (T := T_Liv) (N := 2) hx hb ht i_Liv hown hK hP 0 rfl rfl 0 (by decide) (ht _ mw_52) (fun _ h9 => h9) rfl d_Liv_sweep_71 ?_
          refine lv_iload_n hx hb d_Liv_sweep_74 rfl (lv_at hl 5 rfl) ?_
          refine lv_iload hx hb d_Liv_sweep_75 (lv_at hl 0 rfl) ?_
          refine sm_iast (j := i) hx hb hK hP hD hS 1 0 rfl rfl (vp_in_nI (by first | omega | assumption) (by first | decide | omega)) (nI_clamp (by first | omega | (have := sm_lt31; omega))) d_Liv_sweep_77 (fun H locs hP hD hS => ?_)
          have hP : va_P (dC, dI) smC [(lv, .inr (1, [.ref lf, .int stl])), (lf, .inl (cI, 61, .inl (upd gg i (((bitV (lA n fk fa fb (nI i))) ||| (bitV (rA n fk fc (nI i)))) ||| ((sBh n fk fa fb gg (nI i)) &&& ((bitV (sA n fk fa (nI i))) ^^^ ((-1 : Int32)))))))), (r, .inr (0, [.ref rk, .ref ra, .ref rb, .ref rc, .int (nI n)])), (rk, .inl (cI, 60, .inl fk)), (ra, .inl (cI, 60, .inl fa)), (rb, .inl (cI, 60, .inl fb)), (rc, .inl (cI, 60, .inl fc))] H := hP
          have hD : va_D A [(lv, .inr (1, [.ref lf, .int stl])), (lf, .inl (cI, 61, .inl (upd gg i (((bitV (lA n fk fa fb (nI i))) ||| (bitV (rA n fk fc (nI i)))) ||| ((sBh n fk fa fb gg (nI i)) &&& ((bitV (sA n fk fa (nI i))) ^^^ ((-1 : Int32)))))))), (r, .inr (0, [.ref rk, .ref ra, .ref rb, .ref rc, .int (nI n)])), (rk, .inl (cI, 60, .inl fk)), (ra, .inl (cI, 60, .inl fa)), (rb, .inl (cI, 60, .inl fb)), (rc, .inl (cI, 60, .inl fc))] := hD
          refine lv_iconst (v := 1) hx hb d_Liv_sweep_78 (by decide) ?_
          refine lv_istore_n (lv' := [(2, .int ((1 : Int32))), (5, .int (((bitV (lA n fk fa fb (nI i))) ||| (bitV (rA n fk fc (nI i)))) ||| ((sBh n fk fa fb gg (nI i)) &&& ((bitV (sA n fk fa (nI i))) ^^^ ((-1 : Int32)))))), (4, .int ((bitV (lA n fk fa fb (nI i))) ||| (bitV (rA n fk fc (nI i))))), (0, .ref lv), (1, .ref r), (3, .int (nI i))]) hx hb d_Liv_sweep_79 rfl hl (by decide) rfl (fun ls hl => ?_)
          refine lv_iinc (v := nI i - 1) (lv' := [(3, .int (nI i - 1)), (2, .int ((1 : Int32))), (5, .int (((bitV (lA n fk fa fb (nI i))) ||| (bitV (rA n fk fc (nI i)))) ||| ((sBh n fk fa fb gg (nI i)) &&& ((bitV (sA n fk fa (nI i))) ^^^ ((-1 : Int32)))))), (4, .int ((bitV (lA n fk fa fb (nI i))) ||| (bitV (rA n fk fc (nI i))))), (0, .ref lv), (1, .ref r)]) hx hb d_Liv_sweep_80 hl (k := 5) rfl (sm_dec _) (by decide) rfl (fun ls hl => ?_)
          refine lv_goto (tgt := 14) hx hb d_Liv_sweep_83 (by decide) ?_
          exact ih_14 i (upd gg i (((bitV (lA n fk fa fb (nI i))) ||| (bitV (rA n fk fc (nI i)))) ||| ((sBh n fk fa fb gg (nI i)) &&& ((bitV (sA n fk fa (nI i))) ^^^ ((-1 : Int32)))))) ((1 : Int32)) (by omega) (Or.inr rfl) (by rw [← hv, swp]; exact (if_neg c_67).symm) (by omega) _ _ (hP.sub [0, 1, 2, 3, 4, 5, 6] rfl) (hD.sub [0, 1, 2, 3, 4, 5, 6] (by decide) rfl) hS _ (lv_sub hl [4, 5, 1, 0] rfl)
  exact loop_14 (n + 1) n ff ((0 : Int32)) (Nat.le_refl n) (Or.inl rfl) rfl (by omega) _ _ (hP.sub [0, 1, 2, 3, 4, 5, 6] rfl) (hD.sub [0, 1, 2, 3, 4, 5, 6] (by decide) rfl) hS _ (lv_sub hl [2, 3, 1, 0] rfl)
abbrev y_Liv_follow : MethodName := ⟨"ScanMill$Liveness", "follow", "(LScanMill$Row;)V"⟩
theorem d_Liv_follow_0 : decode prog_2_method_4_code 0 = .ok (.aload_n 0, 1) := by decide +kernel
theorem d_Liv_follow_1 : decode prog_2_method_4_code 1 = .ok (.getfield 15, 3) := by decide +kernel
theorem d_Liv_follow_4 : decode prog_2_method_4_code 4 = .ok (.ifCond .ne 4, 3) := by decide +kernel
theorem d_Liv_follow_8 : decode prog_2_method_4_code 8 = .ok (.aload_n 0, 1) := by decide +kernel
theorem d_Liv_follow_9 : decode prog_2_method_4_code 9 = .ok (.getfield 9, 3) := by decide +kernel
theorem d_Liv_follow_12 : decode prog_2_method_4_code 12 = .ok (.iconst 0, 1) := by decide +kernel
theorem d_Liv_follow_13 : decode prog_2_method_4_code 13 = .ok (.invokestatic 26, 3) := by decide +kernel
theorem mw_201 : Cond.code ⟨"java/util/Arrays", "fill", "([II)V"⟩ prog_15_method_103_code 4 (Option.none : Option FieldType) ∈ wG := wG_t 201 (by decide +kernel) (by decide +kernel)
theorem mw_7 : Cond.initialized "java/util/Arrays" ∈ wG := wG_t 7 (by decide +kernel) (by decide +kernel)
theorem mw_200 : Cond.static ⟨"java/util/Arrays", "fill", "([II)V"⟩ ∈ wG := wG_t 200 (by decide +kernel) (by decide +kernel)
theorem mw_199 : Cond.methodLink "ScanMill$Liveness" 26 ⟨"java/util/Arrays", "fill", "([II)V"⟩ ∈ wG := wG_t 199 (by decide +kernel) (by decide +kernel)
theorem d_Liv_follow_16 : decode prog_2_method_4_code 16 = .ok (.iconst 1, 1) := by decide +kernel
theorem d_Liv_follow_17 : decode prog_2_method_4_code 17 = .ok (.istore_n 2, 1) := by decide +kernel
theorem d_Liv_follow_18 : decode prog_2_method_4_code 18 = .ok (.iconst 0, 1) := by decide +kernel
theorem d_Liv_follow_19 : decode prog_2_method_4_code 19 = .ok (.istore_n 3, 1) := by decide +kernel
theorem d_Liv_follow_20 : decode prog_2_method_4_code 20 = .ok (.iload_n 3, 1) := by decide +kernel
theorem d_Liv_follow_21 : decode prog_2_method_4_code 21 = .ok (.bipush 60, 2) := by decide +kernel
theorem d_Liv_follow_23 : decode prog_2_method_4_code 23 = .ok (.if_icmp .gt 19, 3) := by decide +kernel
theorem d_Liv_follow_42 : decode prog_2_method_4_code 42 = .ok (.aload_n 0, 1) := by decide +kernel
theorem d_Liv_follow_43 : decode prog_2_method_4_code 43 = .ok (.iconst 0, 1) := by decide +kernel
theorem d_Liv_follow_44 : decode prog_2_method_4_code 44 = .ok (.putfield 15, 3) := by decide +kernel
theorem d_Liv_follow_47 : decode prog_2_method_4_code 47 = .ok (.return_, 1) := by decide +kernel
theorem d_Liv_follow_26 : decode prog_2_method_4_code 26 = .ok (.iload_n 2, 1) := by decide +kernel
theorem d_Liv_follow_27 : decode prog_2_method_4_code 27 = .ok (.ifCond .eq 15, 3) := by decide +kernel
theorem d_Liv_follow_30 : decode prog_2_method_4_code 30 = .ok (.aload_n 0, 1) := by decide +kernel
theorem d_Liv_follow_31 : decode prog_2_method_4_code 31 = .ok (.aload_n 1, 1) := by decide +kernel
theorem d_Liv_follow_32 : decode prog_2_method_4_code 32 = .ok (.invokevirtual 32, 3) := by decide +kernel
theorem mw_205 : Cond.code ⟨"ScanMill$Liveness", "sweep", "(LScanMill$Row;)Z"⟩ prog_2_method_5_code 6 (Option.some FieldType.boolean) ∈ wG := wG_t 205 (by decide +kernel) (by decide +kernel)
theorem mw_202 : Cond.methodLink "ScanMill$Liveness" 32 ⟨"ScanMill$Liveness", "sweep", "(LScanMill$Row;)Z"⟩ ∈ wG := wG_t 202 (by decide +kernel) (by decide +kernel)
theorem mw_204 : Cond.instanceMethod ⟨"ScanMill$Liveness", "sweep", "(LScanMill$Row;)Z"⟩ ∈ wG := wG_t 204 (by decide +kernel) (by decide +kernel)
theorem mp_1 : Cond.selects "ScanMill$Liveness" ⟨"ScanMill$Liveness", "sweep", "(LScanMill$Row;)Z"⟩ ⟨"ScanMill$Liveness", "sweep", "(LScanMill$Row;)Z"⟩ ∈ wG := wG_p 1 (by decide +kernel) (by decide +kernel)
theorem d_Liv_follow_35 : decode prog_2_method_4_code 35 = .ok (.istore_n 2, 1) := by decide +kernel
theorem d_Liv_follow_36 : decode prog_2_method_4_code 36 = .ok (.iinc 3 1, 3) := by decide +kernel
theorem d_Liv_follow_39 : decode prog_2_method_4_code 39 = .ok (.goto (-19), 3) := by decide +kernel
theorem d_Liv_follow_7 : decode prog_2_method_4_code 7 = .ok (.return_, 1) := by decide +kernel
set_option maxRecDepth 100000 in
set_option maxHeartbeats 4000000 in
theorem c_Liv_follow {l : Launch} {dC : Nat → ClassId} {dI : Nat → Nat → Nat} {cI cZ : ClassId} {lv lf : Nat} {ff : Nat → Int32} {stl : Int32} {r rk ra rb rc n : Nat} {fk fa fb fc : Nat → Int32} (hn : n ≤ 60) : sm_V l y_Liv_follow prog_2_method_4_code 4 none (rmF 5 110) (dC, dI) smC [(cI, .int), (cZ, .boolean)] [.ref lv, .ref r] [(lv, .inr (1, [.ref lf, .int stl])), (lf, .inl (cI, 61, .inl ff)), (r, .inr (0, [.ref rk, .ref ra, .ref rb, .ref rc, .int (nI n)])), (rk, .inl (cI, 60, .inl fk)), (ra, .inl (cI, 60, .inl fa)), (rb, .inl (cI, 60, .inl fb)), (rc, .inl (cI, 60, .inl fc))] (fun w2 => (stl = 0 ∧ w2 = [(lv, .inr (1, [.ref lf, .int stl])), (lf, .inl (cI, 61, .inl ff)), (r, .inr (0, [.ref rk, .ref ra, .ref rb, .ref rc, .int (nI n)])), (rk, .inl (cI, 60, .inl fk)), (ra, .inl (cI, 60, .inl fa)), (rb, .inl (cI, 60, .inl fb)), (rc, .inl (cI, 60, .inl fc))]) ∨ ((¬ stl = 0) ∧ w2 = [(lv, .inr (1, [.ref lf, .int ((0 : Int32))])), (lf, .inl (cI, 61, .inl (flw n fk fa fb fc 61 (fun _ => 0) 1))), (r, .inr (0, [.ref rk, .ref ra, .ref rb, .ref rc, .int (nI n)])), (rk, .inl (cI, 60, .inl fk)), (ra, .inl (cI, 60, .inl fa)), (rb, .inl (cI, 60, .inl fb)), (rc, .inl (cI, 60, .inl fc))])) := by
  refine sm_V.mk (by decide) (Nat.le_of_ble_eq_true rfl) ?_
  intro p e s m below meth c A H locs ls hx hb hr ht hown hlocks hml hnm hP hK hD hA hS hN hl
  have hl : lv_has ls 4 [(0, .ref lv), (1, .ref r)] := hl
  refine lv_aload_n hx hb d_Liv_follow_0 rfl (lv_at hl 0 rfl) ?_
  refine va_get (D := (dC, dI)) (ci := 1) (v := .int stl) (C := R_Liv) (T := T_Liv) (N := 2) hx hb ht i_Liv hown hK hP 0 rfl rfl 1 (by decide) (ht _ mw_53) (fun _ h9 => h9) rfl d_Liv_follow_1 ?_
  refine lv_if_ne (tgt := 8) hx hb d_Liv_follow_4 (by decide) (fun c_4 => ?_) (fun c_4 => ?_)
  · skip
    refine lv_aload_n hx hb d_Liv_follow_8 rfl (lv_at hl 0 rfl) ?_
    refine va_get (D := (dC, dI)) (ci := 1) (v := .ref lf) (C := R_Liv) (T := T_Liv) (N := 2) hx hb ht i_Liv hown hK hP 0 rfl rfl 0 (by decide) (ht _ mw_52) (fun _ h9 => h9) rfl d_Liv_follow_9 ?_
    refine lv_iconst (v := 0) hx hb d_Liv_follow_12 (by decide) ?_
    refine sm_gov (wc := [(lf, .inl (cI, 61, .inl ff))]) (wr := [(lv, .inr (1, [.ref lf, .int stl])), (r, .inr (0, [.ref rk, .ref ra, .ref rb, .ref rc, .int (nI n)])), (rk, .inl (cI, 60, .inl fk)), (ra, .inl (cI, 60, .inl fa)), (rb, .inl (cI, 60, .inl fb)), (rc, .inl (cI, 60, .inl fc))]) (va_runS (As := [.ref lf, .int ((0 : Int32))]) (rest := []) ⟨hx, hb, hml, hown, ht⟩ ((c_Arr_fill (l := l) (dC := dC) (dI := dI) (cI := cI) (cZ := cZ) (x := lf) (len := 61) (f := ff) (u := (0 : Int32)) (by first | assumption | omega)).at H.size) (sm_cS 2 ht mw_201 mw_7 mw_199 mw_200 rfl rfl (by decide +kernel) ⟨Nat.le_of_ble_eq_true rfl, Nat.le_of_ble_eq_true rfl⟩) (sm_preS hN hK hP hD [1] rfl rfl (by decide)) rfl rfl hl.1 rfl (lv_room (Nat.le_of_ble_eq_true rfl)) d_Liv_follow_13 ⟨Nat.zero_le _, Nat.zero_le _⟩) hP hD hS hA [1] [0, 2, 3, 4, 5, 6] rfl rfl (by decide) (by decide) (fun w_13 H locs q_13 hP hD hS => ?_)
    obtain rfl := q_13
    have hP : va_P (dC, dI) smC [(lv, .inr (1, [.ref lf, .int stl])), (r, .inr (0, [.ref rk, .ref ra, .ref rb, .ref rc, .int (nI n)])), (rk, .inl (cI, 60, .inl fk)), (ra, .inl (cI, 60, .inl fa)), (rb, .inl (cI, 60, .inl fb)), (rc, .inl (cI, 60, .inl fc)), (lf, .inl (cI, 61, .inl (fun _ => ((0 : Int32)))))] H := hP
    have hD : va_D A [(lv, .inr (1, [.ref lf, .int stl])), (r, .inr (0, [.ref rk, .ref ra, .ref rb, .ref rc, .int (nI n)])), (rk, .inl (cI, 60, .inl fk)), (ra, .inl (cI, 60, .inl fa)), (rb, .inl (cI, 60, .inl fb)), (rc, .inl (cI, 60, .inl fc)), (lf, .inl (cI, 61, .inl (fun _ => ((0 : Int32)))))] := hD
    refine lv_iconst (v := 1) hx hb d_Liv_follow_16 (by decide) ?_
    refine lv_istore_n (lv' := [(2, .int ((1 : Int32))), (0, .ref lv), (1, .ref r)]) hx hb d_Liv_follow_17 rfl hl (by decide) rfl (fun ls hl => ?_)
    refine lv_iconst (v := 0) hx hb d_Liv_follow_18 (by decide) ?_
    refine lv_istore_n (lv' := [(3, .int ((0 : Int32))), (2, .int ((1 : Int32))), (0, .ref lv), (1, .ref r)]) hx hb d_Liv_follow_19 rfl hl (by decide) rfl (fun ls hl => ?_)
    have loop_20 : ∀ (N_20 : Nat) (q : Nat) (i : Nat) (gg : Nat → Int32) (ch : Int32), (q + i = 61) → (flw n fk fa fb fc q gg ch = flw n fk fa fb fc 61 (fun _ => 0) 1) → q < N_20 → ∀ (H : Heap) (locs : List Loc), va_P (dC, dI) smC [(lv, .inr (1, [.ref lf, .int stl])), (lf, .inl (cI, 61, .inl gg)), (r, .inr (0, [.ref rk, .ref ra, .ref rb, .ref rc, .int (nI n)])), (rk, .inl (cI, 60, .inl fk)), (ra, .inl (cI, 60, .inl fa)), (rb, .inl (cI, 60, .inl fb)), (rc, .inl (cI, 60, .inl fc))] H → va_D A [(lv, .inr (1, [.ref lf, .int stl])), (lf, .inl (cI, 61, .inl gg)), (r, .inr (0, [.ref rk, .ref ra, .ref rb, .ref rc, .int (nI n)])), (rk, .inl (cI, 60, .inl fk)), (ra, .inl (cI, 60, .inl fa)), (rb, .inl (cI, 60, .inl fb)), (rc, .inl (cI, 60, .inl fc))] → va_S A s.heap H locs → ∀ ls : Array Slot, lv_has ls 4 [(0, .ref lv), (1, .ref r), (2, .int ch), (3, .int (nI i))] → W p l e (rmF 5 110) s m ([.ref lv, .ref r] : List Value).toArray below meth c H locs 0 0 (MQ below (va_Qv (fun w2 => (stl = 0 ∧ w2 = [(lv, .inr (1, [.ref lf, .int stl])), (lf, .inl (cI, 61, .inl ff)), (r, .inr (0, [.ref rk, .ref ra, .ref rb, .ref rc, .int (nI n)])), (rk, .inl (cI, 60, .inl fk)), (ra, .inl (cI, 60, .inl fa)), (rb, .inl (cI, 60, .inl fb)), (rc, .inl (cI, 60, .inl fc))]) ∨ ((¬ stl = 0) ∧ w2 = [(lv, .inr (1, [.ref lf, .int ((0 : Int32))])), (lf, .inl (cI, 61, .inl (flw n fk fa fb fc 61 (fun _ => 0) 1))), (r, .inr (0, [.ref rk, .ref ra, .ref rb, .ref rc, .int (nI n)])), (rk, .inl (cI, 60, .inl fk)), (ra, .inl (cI, 60, .inl fa)), (rb, .inl (cI, 60, .inl fb)), (rc, .inl (cI, 60, .inl fc))])) (sm_B (dC, dI) smC [(cI, .int), (cZ, .boolean)] A) A) ([.ref lv, .ref r] : List Value).toArray s 0 0 A) (F0 m 20 ls []) := by
      intro N_20
      induction N_20 with
      | zero => intro q i gg ch _ _ z; exact absurd z (Nat.not_lt_zero _)
      | succ N_20 ih_20 =>
        intro q i gg ch hqi hv m_20 H locs hP hD hS ls hl
        refine lv_iload_n hx hb d_Liv_follow_20 rfl (lv_at hl 3 rfl) ?_
        refine lv_bipush (v := 60) hx hb d_Liv_follow_21 (by decide) ?_
        refine lv_icmp_gt (tgt := 42) hx hb d_Liv_follow_23 (by decide) (fun c_23 => ?_) (fun c_23 => ?_)
        · skip
          have f_23 : 60 < i := (nI_ltI (a := 60) (b := i) (by first | omega | decide) (by first | omega | decide)).mp c_23
          obtain rfl : q = 0 := by omega
          have hz : gg = flw n fk fa fb fc 61 (fun _ => 0) 1 := hv
          refine lv_aload_n hx hb d_Liv_follow_42 rfl (lv_at hl 0 rfl) ?_
          refine lv_iconst (v := 0) hx hb d_Liv_follow_43 (by decide) ?_
          refine va_put (D := (dC, dI)) (ci := 1) (v := .int ((0 : Int32))) (ty := .boolean) (C := R_Liv) (T := T_Liv) (N := 2) hx hb ht i_Liv t_Liv t_Liv_ok n_Liv hown hK hP hD hS 0 rfl rfl 1 (by decide) (ht _ mw_53) (fun _ h9 => h9) rfl (by decide +kernel) rfl rfl (Nat.le_of_ble_eq_true rfl) d_Liv_follow_44 (fun H locs hP hD hS => ?_)
          have hP : va_P (dC, dI) smC [(lv, .inr (1, [.ref lf, .int ((0 : Int32))])), (lf, .inl (cI, 61, .inl gg)), (r, .inr (0, [.ref rk, .ref ra, .ref rb, .ref rc, .int (nI n)])), (rk, .inl (cI, 60, .inl fk)), (ra, .inl (cI, 60, .inl fa)), (rb, .inl (cI, 60, .inl fb)), (rc, .inl (cI, 60, .inl fc))] H := hP
          have hD : va_D A [(lv, .inr (1, [.ref lf, .int ((0 : Int32))])), (lf, .inl (cI, 61, .inl gg)), (r, .inr (0, [.ref rk, .ref ra, .ref rb, .ref rc, .int (nI n)])), (rk, .inl (cI, 60, .inl fk)), (ra, .inl (cI, 60, .inl fa)), (rb, .inl (cI, 60, .inl fb)), (rc, .inl (cI, 60, .inl fc))] := hD
          refine sm_rv (ws := [(lv, .inr (1, [.ref lf, .int ((0 : Int32))])), (lf, .inl (cI, 61, .inl gg)), (r, .inr (0, [.ref rk, .ref ra, .ref rb, .ref rc, .int (nI n)])), (rk, .inl (cI, 60, .inl fk)), (ra, .inl (cI, 60, .inl fa)), (rb, .inl (cI, 60, .inl fb)), (rc, .inl (cI, 60, .inl fc))]) hx hb hr hlocks hK (hP.sub [0, 1, 2, 3, 4, 5, 6] rfl) (hD.sub [0, 1, 2, 3, 4, 5, 6] (by decide) rfl) hS ?_ d_Liv_follow_47
          exact Or.inr ⟨c_4, by rw [← hz]⟩
        · skip
          have f_23 : ¬ 60 < i := fun z => c_23 ((nI_ltI (a := 60) (b := i) (by first | omega | decide) (by first | omega | decide)).mpr z)
          obtain ⟨q1, rfl⟩ : ∃ z, q = z + 1 := ⟨q - 1, by omega⟩
          refine lv_iload_n hx hb d_Liv_follow_26 rfl (lv_at hl 2 rfl) ?_
          refine lv_if_eq (tgt := 42) hx hb d_Liv_follow_27 (by decide) (fun c_27 => ?_) (fun c_27 => ?_)
          · skip
            have hz : gg = flw n fk fa fb fc 61 (fun _ => 0) 1 := by rw [← hv, flw, if_pos c_27]
            refine lv_aload_n hx hb d_Liv_follow_42 rfl (lv_at hl 0 rfl) ?_
            refine lv_iconst (v := 0) hx hb d_Liv_follow_43 (by decide) ?_
            refine va_put (D := (dC, dI)) (ci := 1) (v := .int ((0 : Int32))) (ty := .boolean) (C := R_Liv) (T := T_Liv) (N := 2) hx hb ht i_Liv t_Liv t_Liv_ok n_Liv hown hK hP hD hS 0 rfl rfl 1 (by decide) (ht _ mw_53) (fun _ h9 => h9) rfl (by decide +kernel) rfl rfl (Nat.le_of_ble_eq_true rfl) d_Liv_follow_44 (fun H locs hP hD hS => ?_)
            have hP : va_P (dC, dI) smC [(lv, .inr (1, [.ref lf, .int ((0 : Int32))])), (lf, .inl (cI, 61, .inl gg)), (r, .inr (0, [.ref rk, .ref ra, .ref rb, .ref rc, .int (nI n)])), (rk, .inl (cI, 60, .inl fk)), (ra, .inl (cI, 60, .inl fa)), (rb, .inl (cI, 60, .inl fb)), (rc, .inl (cI, 60, .inl fc))] H := hP
            have hD : va_D A [(lv, .inr (1, [.ref lf, .int ((0 : Int32))])), (lf, .inl (cI, 61, .inl gg)), (r, .inr (0, [.ref rk, .ref ra, .ref rb, .ref rc, .int (nI n)])), (rk, .inl (cI, 60, .inl fk)), (ra, .inl (cI, 60, .inl fa)), (rb, .inl (cI, 60, .inl fb)), (rc, .inl (cI, 60, .inl fc))] := hD
            refine sm_rv (ws := [(lv, .inr (1, [.ref lf, .int ((0 : Int32))])), (lf, .inl (cI, 61, .inl gg)), (r, .inr (0, [.ref rk, .ref ra, .ref rb, .ref rc, .int (nI n)])), (rk, .inl (cI, 60, .inl fk)), (ra, .inl (cI, 60, .inl fa)), (rb, .inl (cI, 60, .inl fb)), (rc, .inl (cI, 60, .inl fc))]) hx hb hr hlocks hK (hP.sub [0, 1, 2, 3, 4, 5, 6] rfl) (hD.sub [0, 1, 2, 3, 4, 5, 6] (by decide) rfl) hS ?_ d_Liv_follow_47
            exact Or.inr ⟨c_4, by rw [← hz]⟩
          · skip
            refine lv_aload_n hx hb d_Liv_follow_30 rfl (lv_at hl 0 rfl) ?_
            refine lv_aload_n hx hb d_Liv_follow_31 rfl (lv_at hl 1 rfl) ?_
            refine sm_goi (wc := [(lv, .inr (1, [.ref lf, .int stl])), (lf, .inl (cI, 61, .inl gg)), (r, .inr (0, [.ref rk, .ref ra, .ref rb, .ref rc, .int (nI n)])), (rk, .inl (cI, 60, .inl fk)), (ra, .inl (cI, 60, .inl fa)), (rb, .inl (cI, 60, .inl fb)), (rc, .inl (cI, 60, .inl fc))]) (wr := []) (va_runV (As := [.ref r]) (rest := []) ⟨hx, hb, hml, hown, ht⟩ ((c_Liv_sweep (l := l) (dC := dC) (dI := dI) (cI := cI) (cZ := cZ) (lv := lv) (lf := lf) (ff := gg) (stl := stl) (r := r) (rk := rk) (ra := ra) (rb := rb) (rc := rc) (n := n) (fk := fk) (fa := fa) (fb := fb) (fc := fc) (by first | assumption | omega)).at H.size) (sm_cV 1 ht mw_205 mw_3 mw_202 mw_204 mp_1 rfl rfl (by decide +kernel) ⟨Nat.le_of_ble_eq_true rfl, Nat.le_of_ble_eq_true rfl⟩) (sm_preV (ci := 1) hN hK hP hD [0, 1, 2, 3, 4, 5, 6] rfl rfl (by decide) 0 rfl rfl) rfl rfl hl.1 rfl (lv_room (Nat.le_of_ble_eq_true rfl)) d_Liv_follow_32 ⟨Nat.zero_le _, Nat.zero_le _⟩) hP hD hS hA [0, 1, 2, 3, 4, 5, 6] [] rfl rfl (by decide) (by decide) (fun r_32 w_32 H locs q_32 hP hD hS => ?_)
            obtain ⟨rfl, rfl⟩ := q_32
            have hP : va_P (dC, dI) smC [(lv, .inr (1, [.ref lf, .int stl])), (lf, .inl (cI, 61, .inl ((swp n fk fa fb fc n gg 0).1))), (r, .inr (0, [.ref rk, .ref ra, .ref rb, .ref rc, .int (nI n)])), (rk, .inl (cI, 60, .inl fk)), (ra, .inl (cI, 60, .inl fa)), (rb, .inl (cI, 60, .inl fb)), (rc, .inl (cI, 60, .inl fc))] H := hP
            have hD : va_D A [(lv, .inr (1, [.ref lf, .int stl])), (lf, .inl (cI, 61, .inl ((swp n fk fa fb fc n gg 0).1))), (r, .inr (0, [.ref rk, .ref ra, .ref rb, .ref rc, .int (nI n)])), (rk, .inl (cI, 60, .inl fk)), (ra, .inl (cI, 60, .inl fa)), (rb, .inl (cI, 60, .inl fb)), (rc, .inl (cI, 60, .inl fc))] := hD
            refine lv_istore_n (lv' := [(2, .int ((swp n fk fa fb fc n gg 0).2)), (0, .ref lv), (1, .ref r), (3, .int (nI i))]) hx hb d_Liv_follow_35 rfl hl (by decide) rfl (fun ls hl => ?_)
            refine lv_iinc (v := nI (i + 1)) (lv' := [(3, .int (nI (i + 1))), (2, .int ((swp n fk fa fb fc n gg 0).2)), (0, .ref lv), (1, .ref r)]) hx hb d_Liv_follow_36 hl (k := 3) rfl (nI_add i 1) (by decide) rfl (fun ls hl => ?_)
            refine lv_goto (tgt := 20) hx hb d_Liv_follow_39 (by decide) ?_
            exact ih_20 q1 (i + 1) ((swp n fk fa fb fc n gg 0).1) ((swp n fk fa fb fc n gg 0).2) (by omega) (by rw [← hv, flw, if_neg c_27]) (by omega) _ _ (hP.sub [0, 1, 2, 3, 4, 5, 6] rfl) (hD.sub [0, 1, 2, 3, 4, 5, 6] (by decide) rfl) hS _ (lv_sub hl [2, 3, 1, 0] rfl)
    exact loop_20 62 61 0 (fun _ => ((0 : Int32))) ((1 : Int32)) rfl rfl (by decide) _ _ (hP.sub [0, 6, 1, 2, 3, 4, 5] rfl) (hD.sub [0, 6, 1, 2, 3, 4, 5] (by decide) rfl) hS _ (lv_sub hl [2, 3, 1, 0] rfl)
  · skip
    refine sm_rv (ws := [(lv, .inr (1, [.ref lf, .int stl])), (lf, .inl (cI, 61, .inl ff)), (r, .inr (0, [.ref rk, .ref ra, .ref rb, .ref rc, .int (nI n)])), (rk, .inl (cI, 60, .inl fk)), (ra, .inl (cI, 60, .inl fa)), (rb, .inl (cI, 60, .inl fb)), (rc, .inl (cI, 60, .inl fc))]) hx hb hr hlocks hK (hP.sub [0, 1, 2, 3, 4, 5, 6] rfl) (hD.sub [0, 1, 2, 3, 4, 5, 6] (by decide) rfl) hS ?_ d_Liv_follow_7
    exact Or.inl ⟨c_4, rfl⟩
