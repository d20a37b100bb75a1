abbrev y_Mod_value : MethodName := ⟨"ScanMillModel", "value", "(II)I"⟩
theorem d_Mod_value_0 : decode prog_7_method_21_code 0 = .ok (.aload_n 0, 1) := by decide +kernel
theorem d_Mod_value_1 : decode prog_7_method_21_code 1 = .ok (.iconst 0, 1) := by decide +kernel
theorem d_Mod_value_2 : decode prog_7_method_21_code 2 = .ok (.putfield 66, 3) := by decide +kernel
theorem d_Mod_value_5 : decode prog_7_method_21_code 5 = .ok (.aload_n 0, 1) := by decide +kernel
theorem d_Mod_value_6 : decode prog_7_method_21_code 6 = .ok (.getfield 73, 3) := by decide +kernel
theorem d_Mod_value_9 : decode prog_7_method_21_code 9 = .ok (.ifCond .eq 19, 3) := by decide +kernel
theorem d_Mod_value_28 : decode prog_7_method_21_code 28 = .ok (.bipush (-9), 2) := by decide +kernel
theorem d_Mod_value_30 : decode prog_7_method_21_code 30 = .ok (.ireturn, 1) := by decide +kernel
theorem d_Mod_value_12 : decode prog_7_method_21_code 12 = .ok (.iload_n 1, 1) := by decide +kernel
theorem d_Mod_value_13 : decode prog_7_method_21_code 13 = .ok (.invokestatic 83, 3) := by decide +kernel
theorem d_Mod_value_16 : decode prog_7_method_21_code 16 = .ok (.ifCond .eq 12, 3) := by decide +kernel
theorem d_Mod_value_19 : decode prog_7_method_21_code 19 = .ok (.aload_n 0, 1) := by decide +kernel
theorem d_Mod_value_20 : decode prog_7_method_21_code 20 = .ok (.getfield 32, 3) := by decide +kernel
theorem d_Mod_value_23 : decode prog_7_method_21_code 23 = .ok (.iload_n 1, 1) := by decide +kernel
theorem d_Mod_value_24 : decode prog_7_method_21_code 24 = .ok (.baload, 1) := by decide +kernel
theorem d_Mod_value_25 : decode prog_7_method_21_code 25 = .ok (.ifCond .ne 6, 3) := by decide +kernel
theorem d_Mod_value_31 : decode prog_7_method_21_code 31 = .ok (.iload_n 2, 1) := by decide +kernel
theorem d_Mod_value_32 : decode prog_7_method_21_code 32 = .ok (.tableswitch 109 0 4 #[36, 43, 50, 72, 94], 36) := by decide +kernel
theorem d_Mod_value_68 : decode prog_7_method_21_code 68 = .ok (.aload_n 0, 1) := by decide +kernel
theorem d_Mod_value_69 : decode prog_7_method_21_code 69 = .ok (.getfield 26, 3) := by decide +kernel
theorem d_Mod_value_72 : decode prog_7_method_21_code 72 = .ok (.iload_n 1, 1) := by decide +kernel
theorem d_Mod_value_73 : decode prog_7_method_21_code 73 = .ok (.iaload, 1) := by decide +kernel
theorem d_Mod_value_74 : decode prog_7_method_21_code 74 = .ok (.ireturn, 1) := by decide +kernel
theorem d_Mod_value_75 : decode prog_7_method_21_code 75 = .ok (.aload_n 0, 1) := by decide +kernel
theorem d_Mod_value_76 : decode prog_7_method_21_code 76 = .ok (.getfield 29, 3) := by decide +kernel
theorem d_Mod_value_79 : decode prog_7_method_21_code 79 = .ok (.iload_n 1, 1) := by decide +kernel
theorem d_Mod_value_80 : decode prog_7_method_21_code 80 = .ok (.iaload, 1) := by decide +kernel
theorem d_Mod_value_81 : decode prog_7_method_21_code 81 = .ok (.ireturn, 1) := by decide +kernel
theorem d_Mod_value_82 : decode prog_7_method_21_code 82 = .ok (.aload_n 0, 1) := by decide +kernel
theorem d_Mod_value_83 : decode prog_7_method_21_code 83 = .ok (.getfield 39, 3) := by decide +kernel
theorem d_Mod_value_86 : decode prog_7_method_21_code 86 = .ok (.iload_n 1, 1) := by decide +kernel
theorem d_Mod_value_87 : decode prog_7_method_21_code 87 = .ok (.iaload, 1) := by decide +kernel
theorem d_Mod_value_88 : decode prog_7_method_21_code 88 = .ok (.iconst (-1), 1) := by decide +kernel
theorem d_Mod_value_89 : decode prog_7_method_21_code 89 = .ok (.if_icmp .ne 8, 3) := by decide +kernel
theorem d_Mod_value_97 : decode prog_7_method_21_code 97 = .ok (.aload_n 0, 1) := by decide +kernel
theorem d_Mod_value_98 : decode prog_7_method_21_code 98 = .ok (.getfield 39, 3) := by decide +kernel
theorem d_Mod_value_101 : decode prog_7_method_21_code 101 = .ok (.iload_n 1, 1) := by decide +kernel
theorem d_Mod_value_102 : decode prog_7_method_21_code 102 = .ok (.iaload, 1) := by decide +kernel
theorem d_Mod_value_103 : decode prog_7_method_21_code 103 = .ok (.ireturn, 1) := by decide +kernel
theorem d_Mod_value_92 : decode prog_7_method_21_code 92 = .ok (.bipush (-9), 2) := by decide +kernel
theorem d_Mod_value_94 : decode prog_7_method_21_code 94 = .ok (.goto 9, 3) := by decide +kernel
theorem d_Mod_value_104 : decode prog_7_method_21_code 104 = .ok (.aload_n 0, 1) := by decide +kernel
theorem d_Mod_value_105 : decode prog_7_method_21_code 105 = .ok (.getfield 42, 3) := by decide +kernel
theorem d_Mod_value_108 : decode prog_7_method_21_code 108 = .ok (.iload_n 1, 1) := by decide +kernel
theorem d_Mod_value_109 : decode prog_7_method_21_code 109 = .ok (.iaload, 1) := by decide +kernel
theorem d_Mod_value_110 : decode prog_7_method_21_code 110 = .ok (.iconst (-1), 1) := by decide +kernel
theorem d_Mod_value_111 : decode prog_7_method_21_code 111 = .ok (.if_icmp .ne 8, 3) := by decide +kernel
theorem d_Mod_value_119 : decode prog_7_method_21_code 119 = .ok (.aload_n 0, 1) := by decide +kernel
theorem d_Mod_value_120 : decode prog_7_method_21_code 120 = .ok (.getfield 42, 3) := by decide +kernel
theorem d_Mod_value_123 : decode prog_7_method_21_code 123 = .ok (.iload_n 1, 1) := by decide +kernel
theorem d_Mod_value_124 : decode prog_7_method_21_code 124 = .ok (.iaload, 1) := by decide +kernel
theorem d_Mod_value_125 : decode prog_7_method_21_code 125 = .ok (.ireturn, 1) := by decide +kernel
theorem d_Mod_value_114 : decode prog_7_method_21_code 114 = .ok (.bipush (-9), 2) := by decide +kernel
theorem d_Mod_value_116 : decode prog_7_method_21_code 116 = .ok (.goto 9, 3) := by decide +kernel
theorem d_Mod_value_126 : decode prog_7_method_21_code 126 = .ok (.aload_n 0, 1) := by decide +kernel
theorem d_Mod_value_127 : decode prog_7_method_21_code 127 = .ok (.getfield 36, 3) := by decide +kernel
theorem d_Mod_value_130 : decode prog_7_method_21_code 130 = .ok (.iload_n 1, 1) := by decide +kernel
theorem d_Mod_value_131 : decode prog_7_method_21_code 131 = .ok (.baload, 1) := by decide +kernel
theorem d_Mod_value_132 : decode prog_7_method_21_code 132 = .ok (.ifCond .eq 7, 3) := by decide +kernel
theorem d_Mod_value_139 : decode prog_7_method_21_code 139 = .ok (.iconst 0, 1) := by decide +kernel
theorem d_Mod_value_140 : decode prog_7_method_21_code 140 = .ok (.ireturn, 1) := by decide +kernel
theorem d_Mod_value_135 : decode prog_7_method_21_code 135 = .ok (.iconst 1, 1) := by decide +kernel
theorem d_Mod_value_136 : decode prog_7_method_21_code 136 = .ok (.goto 4, 3) := by decide +kernel
theorem d_Mod_value_141 : decode prog_7_method_21_code 141 = .ok (.bipush (-9), 2) := by decide +kernel
theorem d_Mod_value_143 : decode prog_7_method_21_code 143 = .ok (.ireturn, 1) := by decide +kernel
set_option maxRecDepth 100000 in
set_option maxHeartbeats 4000000 in
theorem c_Mod_value {l : Launch} {dC : Nat → ClassId} {dI : Nat → Nat → Nat} {cI cZ : ClassId} {md d1 d2 d3 d4 d5 d6 d7 d8 d9 da db dc dd de df dg dh n wt nr ns sp cl2 np ww : Nat} {th isS sta nx : Int32} {mf ml mi mo mr ms : Nat → Int32} {v what : Int32}  : sm_I l y_Mod_value prog_7_method_21_code 3 (some .int) (rmF 2 42) (dC, dI) smC [(cI, .int), (cZ, .boolean)] [.ref md, .int v, .int what] [(md, .inr (5, [.int th, .int (nI n), .ref d1, .ref d2, .ref d3, .ref d4, .int (nI wt), .int isS, .int (nI nr), .int (nI ns), .ref d5, .ref d6, .ref d7, .ref d8, .ref d9, .ref da, .ref db, .int sta, .int nx, .int (nI sp), .int (nI cl2), .int (nI np), .ref dc, .ref dd, .ref de, .int (nI ww), .ref df, .ref dg, .ref dh])), (d5, .inl (cI, 24, .inl mf)), (d6, .inl (cI, 24, .inl ml)), (d7, .inl (cZ, 24, .inl mi)), (d8, .inl (cZ, 24, .inl mo)), (d9, .inl (cI, 24, .inl mr)), (da, .inl (cI, 24, .inl ms))] (fun q w2 => q = (valM isS mf ml mi mo mr ms v what) ∧ w2 = [(md, .inr (5, [.int ((0 : Int32)), .int (nI n), .ref d1, .ref d2, .ref d3, .ref d4, .int (nI wt), .int isS, .int (nI nr), .int (nI ns), .ref d5, .ref d6, .ref d7, .ref d8, .ref d9, .ref da, .ref db, .int sta, .int nx, .int (nI sp), .int (nI cl2), .int (nI np), .ref dc, .ref dd, .ref de, .int (nI ww), .ref df, .ref dg, .ref dh])), (d5, .inl (cI, 24, .inl mf)), (d6, .inl (cI, 24, .inl ml)), (d7, .inl (cZ, 24, .inl mi)), (d8, .inl (cZ, 24, .inl mo)), (d9, .inl (cI, 24, .inl mr)), (da, .inl (cI, 24, .inl ms))]) := by
  refine sm_I.mk (by decide) (Nat.le_of_ble_eq_true rfl) ?_
  intro p e s m below meth c A H locs ls hx hb hr ht hown hlocks hml hnm hP hK hD hA hS hN hl
  have hl : lv_has ls 3 [(0, .ref md), (1, .int v), (2, .int what)] := hl
  refine lv_aload_n hx hb d_Mod_value_0 rfl (lv_at hl 0 rfl) ?_
  refine lv_iconst (v := 0) hx hb d_Mod_value_1 (by decide) ?_
  refine va_put (D := (dC, dI)) (ci := 5) (v := .int ((0 : Int32))) (ty := .int) (C := R_Mod) (T := T_Mod) (N := 29) hx hb ht i_Mod t_Mod t_Mod_ok n_Mod hown hK hP hD hS 0 rfl rfl 0 (by decide) (ht _ mw_606) (fun _ h9 => h9) rfl (by decide +kernel) rfl rfl (Nat.le_of_ble_eq_true rfl) d_Mod_value_2 (fun H locs hP hD hS => ?_)
  have hP : va_P (dC, dI) smC [(md, .inr (5, [.int ((0 : Int32)), .int (nI n), .ref d1, .ref d2, .ref d3, .ref d4, .int (nI wt), .int isS, .int (nI nr), .int (nI ns), .ref d5, .ref d6, .ref d7, .ref d8, .ref d9, .ref da, .ref db, .int sta, .int nx, .int (nI sp), .int (nI cl2), .int (nI np), .ref dc, .ref dd, .ref de, .int (nI ww), .ref df, .ref dg, .ref dh])), (d5, .inl (cI, 24, .inl mf)), (d6, .inl (cI, 24, .inl ml)), (d7, .inl (cZ, 24, .inl mi)), (d8, .inl (cZ, 24, .inl mo)), (d9, .inl (cI, 24, .inl mr)), (da, .inl (cI, 24, .inl ms))] H := hP
  have hD : va_D A [(md, .inr (5, [.int ((0 : Int32)), .int (nI n), .ref d1, .ref d2, .ref d3, .ref d4, .int (nI wt), .int isS, .int (nI nr), .int (nI ns), .ref d5, .ref d6, .ref d7, .ref d8, .ref d9, .ref da, .ref db, .int sta, .int nx, .int (nI sp), .int (nI cl2), .int (nI np), .ref dc, .ref dd, .ref de, .int (nI ww), .ref df, .ref dg, .ref dh])), (d5, .inl (cI, 24, .inl mf)), (d6, .inl (cI, 24, .inl ml)), (d7, .inl (cZ, 24, .inl mi)), (d8, .inl (cZ, 24, .inl mo)), (d9, .inl (cI, 24, .inl mr)), (da, .inl (cI, 24, .inl ms))] := hD
  refine lv_aload_n hx hb d_Mod_value_5 rfl (lv_at hl 0 rfl) ?_
  refine va_get (D := (dC, dI)) (ci := 5) (v := .int isS) (C := R_Mod) (T := T_Mod) (N := 29) hx hb ht i_Mod hown hK hP 0 rfl rfl 7 (by decide) (ht _ mw_613) (fun _ h9 => h9) rfl d_Mod_value_6 ?_
  refine lv_if_eq (tgt := 28) hx hb d_Mod_value_9 (by decide) (fun c_9 => ?_) (fun c_9 => ?_)
  · skip
    refine lv_bipush (v := -9) hx hb d_Mod_value_28 (by decide) ?_
    refine sm_ri (v := (-9 : Int32)) (ws := [(md, .inr (5, [.int ((0 : Int32)), .int (nI n), .ref d1, .ref d2, .ref d3, .ref d4, .int (nI wt), .int isS, .int (nI nr), .int (nI ns), .ref d5, .ref d6, .ref d7, .ref d8, .ref d9, .ref da, .ref db, .int sta, .int nx, .int (nI sp), .int (nI cl2), .int (nI np), .ref dc, .ref dd, .ref de, .int (nI ww), .ref df, .ref dg, .ref dh])), (d5, .inl (cI, 24, .inl mf)), (d6, .inl (cI, 24, .inl ml)), (d7, .inl (cZ, 24, .inl mi)), (d8, .inl (cZ, 24, .inl mo)), (d9, .inl (cI, 24, .inl mr)), (da, .inl (cI, 24, .inl ms))]) hx hb hr hlocks hK (hP.sub [0, 1, 2, 3, 4, 5, 6] rfl) (hD.sub [0, 1, 2, 3, 4, 5, 6] (by decide) rfl) hS ?_ d_Mod_value_30
    exact ⟨by simp only [valM, if_pos c_9], rfl⟩
  · skip
    refine lv_iload_n hx hb d_Mod_value_12 rfl (lv_at hl 1 rfl) ?_
    refine sm_goi (wc := []) (wr := [(md, .inr (5, [.int ((0 : Int32)), .int (nI n), .ref d1, .ref d2, .ref d3, .ref d4, .int (nI wt), .int isS, .int (nI nr), .int (nI ns), .ref d5, .ref d6, .ref d7, .ref d8, .ref d9, .ref da, .ref db, .int sta, .int nx, .int (nI sp), .int (nI cl2), .int (nI np), .ref dc, .ref dd, .ref de, .int (nI ww), .ref df, .ref dg, .ref dh])), (d5, .inl (cI, 24, .inl mf)), (d6, .inl (cI, 24, .inl ml)), (d7, .inl (cZ, 24, .inl mi)), (d8, .inl (cZ, 24, .inl mo)), (d9, .inl (cI, 24, .inl mr)), (da, .inl (cI, 24, .inl ms))]) (va_runS (As := [.int v]) (rest := []) ⟨hx, hb, hml, hown, ht⟩ ((c_Mod_isValue (l := l) (dC := dC) (dI := dI) (cI := cI) (cZ := cZ) (v := v) ).at H.size) (sm_cS 1 ht mw_707 mw_6 mw_705 mw_706 rfl rfl (by decide +kernel) ⟨Nat.le_of_ble_eq_true rfl, Nat.le_of_ble_eq_true rfl⟩) (sm_preS hN hK hP hD [] rfl rfl (by decide)) rfl rfl hl.1 rfl (lv_room (Nat.le_of_ble_eq_true rfl)) d_Mod_value_13 ⟨Nat.zero_le _, Nat.zero_le _⟩) hP hD hS hA [] [0, 1, 2, 3, 4, 5, 6] rfl rfl (by decide) (by decide) (fun r_13 w_13 H locs q_13 hP hD hS => ?_)
    obtain ⟨rfl, rfl⟩ := q_13
    have hP : va_P (dC, dI) smC [(md, .inr (5, [.int ((0 : Int32)), .int (nI n), .ref d1, .ref d2, .ref d3, .ref d4, .int (nI wt), .int isS, .int (nI nr), .int (nI ns), .ref d5, .ref d6, .ref d7, .ref d8, .ref d9, .ref da, .ref db, .int sta, .int nx, .int (nI sp), .int (nI cl2), .int (nI np), .ref dc, .ref dd, .ref de, .int (nI ww), .ref df, .ref dg, .ref dh])), (d5, .inl (cI, 24, .inl mf)), (d6, .inl (cI, 24, .inl ml)), (d7, .inl (cZ, 24, .inl mi)), (d8, .inl (cZ, 24, .inl mo)), (d9, .inl (cI, 24, .inl mr)), (da, .inl (cI, 24, .inl ms))] H := hP
    have hD : va_D A [(md, .inr (5, [.int ((0 : Int32)), .int (nI n), .ref d1, .ref d2, .ref d3, .ref d4, .int (nI wt), .int isS, .int (nI nr), .int (nI ns), .ref d5, .ref d6, .ref d7, .ref d8, .ref d9, .ref da, .ref db, .int sta, .int nx, .int (nI sp), .int (nI cl2), .int (nI np), .ref dc, .ref dd, .ref de, .int (nI ww), .ref df, .ref dg, .ref dh])), (d5, .inl (cI, 24, .inl mf)), (d6, .inl (cI, 24, .inl ml)), (d7, .inl (cZ, 24, .inl mi)), (d8, .inl (cZ, 24, .inl mo)), (d9, .inl (cI, 24, .inl mr)), (da, .inl (cI, 24, .inl ms))] := hD
    refine lv_if_eq (tgt := 28) hx hb d_Mod_value_16 (by decide) (fun c_16 => ?_) (fun c_16 => ?_)
    · skip
      have e_16 : (inB v 24) = false := b2i_eq0 c_16
      refine lv_bipush (v := -9) hx hb d_Mod_value_28 (by decide) ?_
      refine sm_ri (v := (-9 : Int32)) (ws := [(md, .inr (5, [.int ((0 : Int32)), .int (nI n), .ref d1, .ref d2, .ref d3, .ref d4, .int (nI wt), .int isS, .int (nI nr), .int (nI ns), .ref d5, .ref d6, .ref d7, .ref d8, .ref d9, .ref da, .ref db, .int sta, .int nx, .int (nI sp), .int (nI cl2), .int (nI np), .ref dc, .ref dd, .ref de, .int (nI ww), .ref df, .ref dg, .ref dh])), (d5, .inl (cI, 24, .inl mf)), (d6, .inl (cI, 24, .inl ml)), (d7, .inl (cZ, 24, .inl mi)), (d8, .inl (cZ, 24, .inl mo)), (d9, .inl (cI, 24, .inl mr)), (da, .inl (cI, 24, .inl ms))]) hx hb hr hlocks hK (hP.sub [0, 1, 2, 3, 4, 5, 6] rfl) (hD.sub [0, 1, 2, 3, 4, 5, 6] (by decide) rfl) hS ?_ d_Mod_value_30
      exact ⟨by simp only [valM, if_neg c_9, if_neg (Bool.eq_false_iff.mp e_16)], rfl⟩
    · skip
      have e_16 : (inB v 24) = true := b2i_ne0 c_16
      refine lv_aload_n hx hb d_Mod_value_19 rfl (lv_at hl 0 rfl) ?_
      refine va_get (D := (dC, dI)) (ci := 5) (v := .ref d7) (C := R_Mod) (T := T_Mod) (N := 29) hx hb ht i_Mod hown hK hP 0 rfl rfl 12 (by decide) (ht _ mw_618) (fun _ h9 => h9) rfl d_Mod_value_20 ?_
      refine lv_iload_n hx hb d_Mod_value_23 rfl (lv_at hl 1 rfl) ?_
      refine sm_zald (j := v.toNatClampNeg) hx hb hK hP 3 1 rfl rfl (sm_inB e_16) rfl d_Mod_value_24 ?_
      refine lv_if_ne (tgt := 31) hx hb d_Mod_value_25 (by decide) (fun c_25 => ?_) (fun c_25 => ?_)
      · skip
        refine lv_iload_n hx hb d_Mod_value_31 rfl (lv_at hl 2 rfl) ?_
        by_cases g_32_68 : what = 0
        · skip
          refine sm_tab (tgt := 68) hx hb d_Mod_value_32 (by rw [g_32_68]; decide) ?_
          refine lv_aload_n hx hb d_Mod_value_68 rfl (lv_at hl 0 rfl) ?_
          refine va_get (D := (dC, dI)) (ci := 5) (v := .ref d5) (C := R_Mod) (T := T_Mod) (N := 29) hx hb ht i_Mod hown hK hP 0 rfl rfl 10 (by decide) (ht _ mw_616) (fun _ h9 => h9) rfl d_Mod_value_69 ?_
          refine lv_iload_n hx hb d_Mod_value_72 rfl (lv_at hl 1 rfl) ?_
          refine sm_iald (j := v.toNatClampNeg) hx hb hK hP 1 0 rfl rfl (sm_inB e_16) rfl d_Mod_value_73 ?_
          refine sm_ri (v := mf v.toNatClampNeg) (ws := [(md, .inr (5, [.int ((0 : Int32)), .int (nI n), .ref d1, .ref d2, .ref d3, .ref d4, .int (nI wt), .int isS, .int (nI nr), .int (nI ns), .ref d5, .ref d6, .ref d7, .ref d8, .ref d9, .ref da, .ref db, .int sta, .int nx, .int (nI sp), .int (nI cl2), .int (nI np), .ref dc, .ref dd, .ref de, .int (nI ww), .ref df, .ref dg, .ref dh])), (d5, .inl (cI, 24, .inl mf)), (d6, .inl (cI, 24, .inl ml)), (d7, .inl (cZ, 24, .inl mi)), (d8, .inl (cZ, 24, .inl mo)), (d9, .inl (cI, 24, .inl mr)), (da, .inl (cI, 24, .inl ms))]) hx hb hr hlocks hK (hP.sub [0, 1, 2, 3, 4, 5, 6] rfl) (hD.sub [0, 1, 2, 3, 4, 5, 6] (by decide) rfl) hS ?_ d_Mod_value_74
          exact ⟨by simp only [valM, if_neg c_9, if_pos e_16, if_neg c_25, if_pos g_32_68], rfl⟩
        by_cases g_32_75 : what = 1
        · skip
          refine sm_tab (tgt := 75) hx hb d_Mod_value_32 (by rw [g_32_75]; decide) ?_
          refine lv_aload_n hx hb d_Mod_value_75 rfl (lv_at hl 0 rfl) ?_
          refine va_get (D := (dC, dI)) (ci := 5) (v := .ref d6) (C := R_Mod) (T := T_Mod) (N := 29) hx hb ht i_Mod hown hK hP 0 rfl rfl 11 (by decide) (ht _ mw_617) (fun _ h9 => h9) rfl d_Mod_value_76 ?_
          refine lv_iload_n hx hb d_Mod_value_79 rfl (lv_at hl 1 rfl) ?_
          refine sm_iald (j := v.toNatClampNeg) hx hb hK hP 2 0 rfl rfl (sm_inB e_16) rfl d_Mod_value_80 ?_
          refine sm_ri (v := ml v.toNatClampNeg) (ws := [(md, .inr (5, [.int ((0 : Int32)), .int (nI n), .ref d1, .ref d2, .ref d3, .ref d4, .int (nI wt), .int isS, .int (nI nr), .int (nI ns), .ref d5, .ref d6, .ref d7, .ref d8, .ref d9, .ref da, .ref db, .int sta, .int nx, .int (nI sp), .int (nI cl2), .int (nI np), .ref dc, .ref dd, .ref de, .int (nI ww), .ref df, .ref dg, .ref dh])), (d5, .inl (cI, 24, .inl mf)), (d6, .inl (cI, 24, .inl ml)), (d7, .inl (cZ, 24, .inl mi)), (d8, .inl (cZ, 24, .inl mo)), (d9, .inl (cI, 24, .inl mr)), (da, .inl (cI, 24, .inl ms))]) hx hb hr hlocks hK (hP.sub [0, 1, 2, 3, 4, 5, 6] rfl) (hD.sub [0, 1, 2, 3, 4, 5, 6] (by decide) rfl) hS ?_ d_Mod_value_81
          exact ⟨by simp only [valM, if_neg c_9, if_pos e_16, if_neg c_25, if_neg g_32_68, if_pos g_32_75], rfl⟩
        by_cases g_32_82 : what = 2
        · skip
          refine sm_tab (tgt := 82) hx hb d_Mod_value_32 (by rw [g_32_82]; decide) ?_
          refine lv_aload_n hx hb d_Mod_value_82 rfl (lv_at hl 0 rfl) ?_
          refine va_get (D := (dC, dI)) (ci := 5) (v := .ref d9) (C := R_Mod) (T := T_Mod) (N := 29) hx hb ht i_Mod hown hK hP 0 rfl rfl 14 (by decide) (ht _ mw_620) (fun _ h9 => h9) rfl d_Mod_value_83 ?_
          refine lv_iload_n hx hb d_Mod_value_86 rfl (lv_at hl 1 rfl) ?_
          refine sm_iald (j := v.toNatClampNeg) hx hb hK hP 5 0 rfl rfl (sm_inB e_16) rfl d_Mod_value_87 ?_
          refine lv_iconst (v := -1) hx hb d_Mod_value_88 (by decide) ?_
          refine lv_icmp_ne (tgt := 97) hx hb d_Mod_value_89 (by decide) (fun c_89 => ?_) (fun c_89 => ?_)
          · skip
            refine lv_aload_n hx hb d_Mod_value_97 rfl (lv_at hl 0 rfl) ?_
            refine va_get (D := (dC, dI)) (ci := 5) (v := .ref d9) (C := R_Mod) (T := T_Mod) (N := 29) hx hb ht i_Mod hown hK hP 0 rfl rfl 14 (by decide) (ht _ mw_620) (fun _ h9 => h9) rfl d_Mod_value_98 ?_
            refine lv_iload_n hx hb d_Mod_value_101 rfl (lv_at hl 1 rfl) ?_
            refine sm_iald (j := v.toNatClampNeg) hx hb hK hP 5 0 rfl rfl (sm_inB e_16) rfl d_Mod_value_102 ?_
            refine sm_ri (v := mr v.toNatClampNeg) (ws := [(md, .inr (5, [.int ((0 : Int32)), .int (nI n), .ref d1, .ref d2, .ref d3, .ref d4, .int (nI wt), .int isS, .int (nI nr), .int (nI ns), .ref d5, .ref d6, .ref d7, .ref d8, .ref d9, .ref da, .ref db, .int sta, .int nx, .int (nI sp), .int (nI cl2), .int (nI np), .ref dc, .ref dd, .ref de, .int (nI ww), .ref df, .ref dg, .ref dh])), (d5, .inl (cI, 24, .inl mf)), (d6, .inl (cI, 24, .inl ml)), (d7, .inl (cZ, 24, .inl mi)), (d8, .inl (cZ, 24, .inl mo)), (d9, .inl (cI, 24, .inl mr)), (da, .inl (cI, 24, .inl ms))]) hx hb hr hlocks hK (hP.sub [0, 1, 2, 3, 4, 5, 6] rfl) (hD.sub [0, 1, 2, 3, 4, 5, 6] (by decide) rfl) hS ?_ d_Mod_value_103
            exact ⟨by simp only [valM, if_neg c_9, if_pos e_16, if_neg c_25, if_neg g_32_68, if_neg g_32_75, if_pos g_32_82, if_neg c_89], rfl⟩
          · skip
            refine lv_bipush (v := -9) hx hb d_Mod_value_92 (by decide) ?_
            refine lv_goto (tgt := 103) hx hb d_Mod_value_94 (by decide) ?_
            refine sm_ri (v := (-9 : Int32)) (ws := [(md, .inr (5, [.int ((0 : Int32)), .int (nI n), .ref d1, .ref d2, .ref d3, .ref d4, .int (nI wt), .int isS, .int (nI nr), .int (nI ns), .ref d5, .ref d6, .ref d7, .ref d8, .ref d9, .ref da, .ref db, .int sta, .int nx, .int (nI sp), .int (nI cl2), .int (nI np), .ref dc, .ref dd, .ref de, .int (nI ww), .ref df, .ref dg, .ref dh])), (d5, .inl (cI, 24, .inl mf)), (d6, .inl (cI, 24, .inl ml)), (d7, .inl (cZ, 24, .inl mi)), (d8, .inl (cZ, 24, .inl mo)), (d9, .inl (cI, 24, .inl mr)), (da, .inl (cI, 24, .inl ms))]) hx hb hr hlocks hK (hP.sub [0, 1, 2, 3, 4, 5, 6] rfl) (hD.sub [0, 1, 2, 3, 4, 5, 6] (by decide) rfl) hS ?_ d_Mod_value_103
            exact ⟨by simp only [valM, if_neg c_9, if_pos e_16, if_neg c_25, if_neg g_32_68, if_neg g_32_75, if_pos g_32_82, if_pos c_89], rfl⟩
        by_cases g_32_104 : what = 3
        · skip
          refine sm_tab (tgt := 104) hx hb d_Mod_value_32 (by rw [g_32_104]; decide) ?_
          refine lv_aload_n hx hb d_Mod_value_104 rfl (lv_at hl 0 rfl) ?_
          refine va_get (D := (dC, dI)) (ci := 5) (v := .ref da) (C := R_Mod) (T := T_Mod) (N := 29) hx hb ht i_Mod hown hK hP 0 rfl rfl 15 (by decide) (ht _ mw_621) (fun _ h9 => h9) rfl d_Mod_value_105 ?_
          refine lv_iload_n hx hb d_Mod_value_108 rfl (lv_at hl 1 rfl) ?_
          refine sm_iald (j := v.toNatClampNeg) hx hb hK hP 6 0 rfl rfl (sm_inB e_16) rfl d_Mod_value_109 ?_
          refine lv_iconst (v := -1) hx hb d_Mod_value_110 (by decide) ?_
          refine lv_icmp_ne (tgt := 119) hx hb d_Mod_value_111 (by decide) (fun c_111 => ?_) (fun c_111 => ?_)
          · skip
            refine lv_aload_n hx hb d_Mod_value_119 rfl (lv_at hl 0 rfl) ?_
            refine va_get (D := (dC, dI)) (ci := 5) (v := .ref da) (C := R_Mod) (T := T_Mod) (N := 29) hx hb ht i_Mod hown hK hP 0 rfl rfl 15 (by decide) (ht _ mw_621) (fun _ h9 => h9) rfl d_Mod_value_120 ?_
            refine lv_iload_n hx hb d_Mod_value_123 rfl (lv_at hl 1 rfl) ?_
            refine sm_iald (j := v.toNatClampNeg) hx hb hK hP 6 0 rfl rfl (sm_inB e_16) rfl d_Mod_value_124 ?_
            refine sm_ri (v := ms v.toNatClampNeg) (ws := [(md, .inr (5, [.int ((0 : Int32)), .int (nI n), .ref d1, .ref d2, .ref d3, .ref d4, .int (nI wt), .int isS, .int (nI nr), .int (nI ns), .ref d5, .ref d6, .ref d7, .ref d8, .ref d9, .ref da, .ref db, .int sta, .int nx, .int (nI sp), .int (nI cl2), .int (nI np), .ref dc, .ref dd, .ref de, .int (nI ww), .ref df, .ref dg, .ref dh])), (d5, .inl (cI, 24, .inl mf)), (d6, .inl (cI, 24, .inl ml)), (d7, .inl (cZ, 24, .inl mi)), (d8, .inl (cZ, 24, .inl mo)), (d9, .inl (cI, 24, .inl mr)), (da, .inl (cI, 24, .inl ms))]) hx hb hr hlocks hK (hP.sub [0, 1, 2, 3, 4, 5, 6] rfl) (hD.sub [0, 1, 2, 3, 4, 5, 6] (by decide) rfl) hS ?_ d_Mod_value_125
            exact ⟨by simp only [valM, if_neg c_9, if_pos e_16, if_neg c_25, if_neg g_32_68, if_neg g_32_75, if_neg g_32_82, if_pos g_32_104, if_neg c_111], rfl⟩
          · skip
            refine lv_bipush (v := -9) hx hb d_Mod_value_114 (by decide) ?_
            refine lv_goto (tgt := 125) hx hb d_Mod_value_116 (by decide) ?_
            refine sm_ri (v := (-9 : Int32)) (ws := [(md, .inr (5, [.int ((0 : Int32)), .int (nI n), .ref d1, .ref d2, .ref d3, .ref d4, .int (nI wt), .int isS, .int (nI nr), .int (nI ns), .ref d5, .ref d6, .ref d7, .ref d8, .ref d9, .ref da, .ref db, .int sta, .int nx, .int (nI sp), .int (nI cl2), .int (nI np), .ref dc, .ref dd, .ref de, .int (nI ww), .ref df, .ref dg, .ref dh])), (d5, .inl (cI, 24, .inl mf)), (d6, .inl (cI, 24, .inl ml)), (d7, .inl (cZ, 24, .inl mi)), (d8, .inl (cZ, 24, .inl mo)), (d9, .inl (cI, 24, .inl mr)), (da, .inl (cI, 24, .inl ms))]) hx hb hr hlocks hK (hP.sub [0, 1, 2, 3, 4, 5, 6] rfl) (hD.sub [0, 1, 2, 3, 4, 5, 6] (by decide) rfl) hS ?_ d_Mod_value_125
            exact ⟨by simp only [valM, if_neg c_9, if_pos e_16, if_neg c_25, if_neg g_32_68, if_neg g_32_75, if_neg g_32_82, if_pos g_32_104, if_pos c_111], rfl⟩
        by_cases g_32_126 : what = 4
        · skip
          refine sm_tab (tgt := 126) hx hb d_Mod_value_32 (by rw [g_32_126]; decide) ?_
          refine lv_aload_n hx hb d_Mod_value_126 rfl (lv_at hl 0 rfl) ?_
          refine va_get (D := (dC, dI)) (ci := 5) (v := .ref d8) (C := R_Mod) (T := T_Mod) (N := 29) hx hb ht i_Mod hown hK hP 0 rfl rfl 13 (by decide) (ht _ mw_619) (fun _ h9 => h9) rfl d_Mod_value_127 ?_
          refine lv_iload_n hx hb d_Mod_value_130 rfl (lv_at hl 1 rfl) ?_
          refine sm_zald (j := v.toNatClampNeg) hx hb hK hP 4 1 rfl rfl (sm_inB e_16) rfl d_Mod_value_131 ?_
          refine lv_if_eq (tgt := 139) hx hb d_Mod_value_132 (by decide) (fun c_132 => ?_) (fun c_132 => ?_)
          · skip
            refine lv_iconst (v := 0) hx hb d_Mod_value_139 (by decide) ?_
            refine sm_ri (v := (0 : Int32)) (ws := [(md, .inr (5, [.int ((0 : Int32)), .int (nI n), .ref d1, .ref d2, .ref d3, .ref d4, .int (nI wt), .int isS, .int (nI nr), .int (nI ns), .ref d5, .ref d6, .ref d7, .ref d8, .ref d9, .ref da, .ref db, .int sta, .int nx, .int (nI sp), .int (nI cl2), .int (nI np), .ref dc, .ref dd, .ref de, .int (nI ww), .ref df, .ref dg, .ref dh])), (d5, .inl (cI, 24, .inl mf)), (d6, .inl (cI, 24, .inl ml)), (d7, .inl (cZ, 24, .inl mi)), (d8, .inl (cZ, 24, .inl mo)), (d9, .inl (cI, 24, .inl mr)), (da, .inl (cI, 24, .inl ms))]) hx hb hr hlocks hK (hP.sub [0, 1, 2, 3, 4, 5, 6] rfl) (hD.sub [0, 1, 2, 3, 4, 5, 6] (by decide) rfl) hS ?_ d_Mod_value_140
            exact ⟨by simp only [valM, if_neg c_9, if_pos e_16, if_neg c_25, if_neg g_32_68, if_neg g_32_75, if_neg g_32_82, if_neg g_32_104, if_pos g_32_126, if_pos c_132], rfl⟩
          · skip
            refine lv_iconst (v := 1) hx hb d_Mod_value_135 (by decide) ?_
            refine lv_goto (tgt := 140) hx hb d_Mod_value_136 (by decide) ?_
            refine sm_ri (v := (1 : Int32)) (ws := [(md, .inr (5, [.int ((0 : Int32)), .int (nI n), .ref d1, .ref d2, .ref d3, .ref d4, .int (nI wt), .int isS, .int (nI nr), .int (nI ns), .ref d5, .ref d6, .ref d7, .ref d8, .ref d9, .ref da, .ref db, .int sta, .int nx, .int (nI sp), .int (nI cl2), .int (nI np), .ref dc, .ref dd, .ref de, .int (nI ww), .ref df, .ref dg, .ref dh])), (d5, .inl (cI, 24, .inl mf)), (d6, .inl (cI, 24, .inl ml)), (d7, .inl (cZ, 24, .inl mi)), (d8, .inl (cZ, 24, .inl mo)), (d9, .inl (cI, 24, .inl mr)), (da, .inl (cI, 24, .inl ms))]) hx hb hr hlocks hK (hP.sub [0, 1, 2, 3, 4, 5, 6] rfl) (hD.sub [0, 1, 2, 3, 4, 5, 6] (by decide) rfl) hS ?_ d_Mod_value_140
            exact ⟨by simp only [valM, if_neg c_9, if_pos e_16, if_neg c_25, if_neg g_32_68, if_neg g_32_75, if_neg g_32_82, if_neg g_32_104, if_pos g_32_126, if_neg c_132], rfl⟩
        refine sm_tab (tgt := 141) hx hb d_Mod_value_32 (sm_tabD [0, 1, 2, 3, 4] ⟨fun z => g_32_68 (z), fun z => g_32_75 (z), fun z => g_32_82 (z), fun z => g_32_104 (z), fun z => g_32_126 (z), trivial⟩ (by decide) (by decide)) ?_
        refine lv_bipush (v := -9) hx hb d_Mod_value_141 (by decide) ?_
        refine sm_ri (v := (-9 : Int32)) (ws := [(md, .inr (5, [.int ((0 : Int32)), .int (nI n), .ref d1, .ref d2, .ref d3, .ref d4, .int (nI wt), .int isS, .int (nI nr), .int (nI ns), .ref d5, .ref d6, .ref d7, .ref d8, .ref d9, .ref da, .ref db, .int sta, .int nx, .int (nI sp), .int (nI cl2), .int (nI np), .ref dc, .ref dd, .ref de, .int (nI ww), .ref df, .ref dg, .ref dh])), (d5, .inl (cI, 24, .inl mf)), (d6, .inl (cI, 24, .inl ml)), (d7, .inl (cZ, 24, .inl mi)), (d8, .inl (cZ, 24, .inl mo)), (d9, .inl (cI, 24, .inl mr)), (da, .inl (cI, 24, .inl ms))]) hx hb hr hlocks hK (hP.sub [0, 1, 2, 3, 4, 5, 6] rfl) (hD.sub [0, 1, 2, 3, 4, 5, 6] (by decide) rfl) hS ?_ d_Mod_value_143
        exact ⟨by simp only [valM, if_neg c_9, if_pos e_16, if_neg c_25, if_neg g_32_68, if_neg g_32_75, if_neg g_32_82, if_neg g_32_104, if_neg g_32_126], rfl⟩
      · skip
        refine lv_bipush (v := -9) hx hb d_Mod_value_28 (by decide) ?_
        refine sm_ri (v := (-9 : Int32)) (ws := [(md, .inr (5, [.int ((0 : Int32)), .int (nI n), .ref d1, .ref d2, .ref d3, .ref d4, .int (nI wt), .int isS, .int (nI nr), .int (nI ns), .ref d5, .ref d6, .ref d7, .ref d8, .ref d9, .ref da, .ref db, .int sta, .int nx, .int (nI sp), .int (nI cl2), .int (nI np), .ref dc, .ref dd, .ref de, .int (nI ww), .ref df, .ref dg, .ref dh])), (d5, .inl (cI, 24, .inl mf)), (d6, .inl (cI, 24, .inl ml)), (d7, .inl (cZ, 24, .inl mi)), (d8, .inl (cZ, 24, .inl mo)), (d9, .inl (cI, 24, .inl mr)), (da, .inl (cI, 24, .inl ms))]) hx hb hr hlocks hK (hP.sub [0, 1, 2, 3, 4, 5, 6] rfl) (hD.sub [0, 1, 2, 3, 4, 5, 6] (by decide) rfl) hS ?_ d_Mod_value_30
        exact ⟨by simp only [valM, if_neg c_9, if_pos e_16, if_pos c_25], rfl⟩
abbrev y_Mod_isEnd : MethodName := ⟨"ScanMillModel", "isEnd", "()Z"⟩
theorem d_Mod_isEnd_0 : decode prog_7_method_23_code 0 = .ok (.aload_n 0, 1) := by decide +kernel
theorem d_Mod_isEnd_1 : decode prog_7_method_23_code 1 = .ok (.getfield 133, 3) := by decide +kernel
theorem mw_624 : Cond.fieldLink "ScanMillModel" 133 "ScanMillModel" "next" "I" ∈ wG := wG_t 624 (by decide +kernel) (by decide +kernel)
theorem d_Mod_isEnd_4 : decode prog_7_method_23_code 4 = .ok (.aload_n 0, 1) := by decide +kernel
theorem d_Mod_isEnd_5 : decode prog_7_method_23_code 5 = .ok (.getfield 80, 3) := by decide +kernel
theorem d_Mod_isEnd_8 : decode prog_7_method_23_code 8 = .ok (.if_icmp .ge 17, 3) := by decide +kernel
theorem d_Mod_isEnd_25 : decode prog_7_method_23_code 25 = .ok (.iconst 1, 1) := by decide +kernel
theorem d_Mod_isEnd_26 : decode prog_7_method_23_code 26 = .ok (.goto 4, 3) := by decide +kernel
theorem d_Mod_isEnd_30 : decode prog_7_method_23_code 30 = .ok (.ireturn, 1) := by decide +kernel
theorem d_Mod_isEnd_11 : decode prog_7_method_23_code 11 = .ok (.aload_n 0, 1) := by decide +kernel
theorem d_Mod_isEnd_12 : decode prog_7_method_23_code 12 = .ok (.getfield 7, 3) := by decide +kernel
theorem d_Mod_isEnd_15 : decode prog_7_method_23_code 15 = .ok (.aload_n 0, 1) := by decide +kernel
theorem d_Mod_isEnd_16 : decode prog_7_method_23_code 16 = .ok (.getfield 133, 3) := by decide +kernel
theorem d_Mod_isEnd_19 : decode prog_7_method_23_code 19 = .ok (.iaload, 1) := by decide +kernel
theorem d_Mod_isEnd_20 : decode prog_7_method_23_code 20 = .ok (.bipush 11, 2) := by decide +kernel
theorem d_Mod_isEnd_22 : decode prog_7_method_23_code 22 = .ok (.if_icmp .ne 7, 3) := by decide +kernel
theorem d_Mod_isEnd_29 : decode prog_7_method_23_code 29 = .ok (.iconst 0, 1) := by decide +kernel
set_option maxRecDepth 100000 in
set_option maxHeartbeats 4000000 in
theorem c_Mod_isEnd {l : Launch} {dC : Nat → ClassId} {dI : Nat → Nat → Nat} {cI cZ : ClassId} {md d1 d2 d3 d4 d5 d6 d7 d8 d9 da db dc dd de df dg dh n wt nr ns sp cl2 np ww : Nat} {th isS sta : Int32} {fk : Nat → Int32} {k : Nat} (hn : n ≤ 60) (hk61 : k < 61) : sm_I l y_Mod_isEnd prog_7_method_23_code 1 (some .boolean) (rmF 0 0) (dC, dI) smC [(cI, .int), (cZ, .boolean)] [.ref md] [(md, .inr (5, [.int th, .int (nI n), .ref d1, .ref d2, .ref d3, .ref d4, .int (nI wt), .int isS, .int (nI nr), .int (nI ns), .ref d5, .ref d6, .ref d7, .ref d8, .ref d9, .ref da, .ref db, .int sta, .int (nI k), .int (nI sp), .int (nI cl2), .int (nI np), .ref dc, .ref dd, .ref de, .int (nI ww), .ref df, .ref dg, .ref dh])), (d1, .inl (cI, 60, .inl fk))] (fun q w2 => q = (b2i (eK n fk k)) ∧ w2 = [(md, .inr (5, [.int th, .int (nI n), .ref d1, .ref d2, .ref d3, .ref d4, .int (nI wt), .int isS, .int (nI nr), .int (nI ns), .ref d5, .ref d6, .ref d7, .ref d8, .ref d9, .ref da, .ref db, .int sta, .int (nI k), .int (nI sp), .int (nI cl2), .int (nI np), .ref dc, .ref dd, .ref de, .int (nI ww), .ref df, .ref dg, .ref dh])), (d1, .inl (cI, 60, .inl fk))]) := by
  refine sm_I.mk (by decide) (Nat.le_of_ble_eq_true rfl) ?_
  intro p e s m below meth c A H locs ls hx hb hr ht hown hlocks hml hnm hP hK hD hA hS hN hl
  have hl : lv_has ls 1 [(0, .ref md)] := hl
  refine lv_aload_n hx hb d_Mod_isEnd_0 rfl (lv_at hl 0 rfl) ?_
  refine va_get (D := (dC, dI)) (ci := 5) (v := .int (nI k)) (C := R_Mod) (T := T_Mod) (N := 29) hx hb ht i_Mod hown hK hP 0 rfl rfl 18 (by decide) (ht _ mw_624) (fun _ h9 => h9) rfl d_Mod_isEnd_1 ?_
  refine lv_aload_n hx hb d_Mod_isEnd_4 rfl (lv_at hl 0 rfl) ?_
  refine va_get (D := (dC, dI)) (ci := 5) (v := .int (nI n)) (C := R_Mod) (T := T_Mod) (N := 29) hx hb ht i_Mod hown hK hP 0 rfl rfl 1 (by decide) (ht _ mw_607) (fun _ h9 => h9) rfl d_Mod_isEnd_5 ?_
  refine lv_icmp_ge (tgt := 25) hx hb d_Mod_isEnd_8 (by decide) (fun c_8 => ?_) (fun c_8 => ?_)
  · skip
    have f_8 : n ≤ k := (nI_leI (a := n) (b := k) (by first | omega | decide) (by first | omega | decide)).mp c_8
    refine lv_iconst (v := 1) hx hb d_Mod_isEnd_25 (by decide) ?_
    refine lv_goto (tgt := 30) hx hb d_Mod_isEnd_26 (by decide) ?_
    refine sm_rz (v := (1 : Int32)) (ws := [(md, .inr (5, [.int th, .int (nI n), .ref d1, .ref d2, .ref d3, .ref d4, .int (nI wt), .int isS, .int (nI nr), .int (nI ns), .ref d5, .ref d6, .ref d7, .ref d8, .ref d9, .ref da, .ref db, .int sta, .int (nI k), .int (nI sp), .int (nI cl2), .int (nI np), .ref dc, .ref dd, .ref de, .int (nI ww), .ref df, .ref dg, .ref dh])), (d1, .inl (cI, 60, .inl fk))]) hx hb hr hlocks hK (hP.sub [0, 1] rfl) (hD.sub [0, 1] (by decide) rfl) hS (by decide) ?_ d_Mod_isEnd_30
    exact ⟨by rw [eK, kA_out f_8 (by omega)]; rfl, rfl⟩
  · skip
    have f_8 : ¬ n ≤ k := fun z => c_8 ((nI_leI (a := n) (b := k) (by first | omega | decide) (by first | omega | decide)).mpr z)
    refine lv_aload_n hx hb d_Mod_isEnd_11 rfl (lv_at hl 0 rfl) ?_
    refine va_get (D := (dC, dI)) (ci := 5) (v := .ref d1) (C := R_Mod) (T := T_Mod) (N := 29) hx hb ht i_Mod hown hK hP 0 rfl rfl 2 (by decide) (ht _ mw_608) (fun _ h9 => h9) rfl d_Mod_isEnd_12 ?_
    refine lv_aload_n hx hb d_Mod_isEnd_15 rfl (lv_at hl 0 rfl) ?_
    refine va_get (D := (dC, dI)) (ci := 5) (v := .int (nI k)) (C := R_Mod) (T := T_Mod) (N := 29) hx hb ht i_Mod hown hK hP 0 rfl rfl 18 (by decide) (ht _ mw_624) (fun _ h9 => h9) rfl d_Mod_isEnd_16 ?_
    refine sm_iald (j := k) hx hb hK hP 1 0 rfl rfl (vp_in_nI (by first | omega | assumption) (by first | decide | omega)) (nI_clamp (by first | omega | (have := sm_lt31; omega))) d_Mod_isEnd_19 ?_
    refine lv_bipush (v := 11) hx hb d_Mod_isEnd_20 (by decide) ?_
    refine lv_icmp_ne (tgt := 29) hx hb d_Mod_isEnd_22 (by decide) (fun c_22 => ?_) (fun c_22 => ?_)
    · skip
      refine lv_iconst (v := 0) hx hb d_Mod_isEnd_29 (by decide) ?_
      refine sm_rz (v := (0 : Int32)) (ws := [(md, .inr (5, [.int th, .int (nI n), .ref d1, .ref d2, .ref d3, .ref d4, .int (nI wt), .int isS, .int (nI nr), .int (nI ns), .ref d5, .ref d6, .ref d7, .ref d8, .ref d9, .ref da, .ref db, .int sta, .int (nI k), .int (nI sp), .int (nI cl2), .int (nI np), .ref dc, .ref dd, .ref de, .int (nI ww), .ref df, .ref dg, .ref dh])), (d1, .inl (cI, 60, .inl fk))]) hx hb hr hlocks hK (hP.sub [0, 1] rfl) (hD.sub [0, 1] (by decide) rfl) hS (by decide) ?_ d_Mod_isEnd_30
      exact ⟨by rw [eK, kA_nI (by omega) hn, decide_eq_false c_22]; rfl, rfl⟩
    · skip
      refine lv_iconst (v := 1) hx hb d_Mod_isEnd_25 (by decide) ?_
      refine lv_goto (tgt := 30) hx hb d_Mod_isEnd_26 (by decide) ?_
      refine sm_rz (v := (1 : Int32)) (ws := [(md, .inr (5, [.int th, .int (nI n), .ref d1, .ref d2, .ref d3, .ref d4, .int (nI wt), .int isS, .int (nI nr), .int (nI ns), .ref d5, .ref d6, .ref d7, .ref d8, .ref d9, .ref da, .ref db, .int sta, .int (nI k), .int (nI sp), .int (nI cl2), .int (nI np), .ref dc, .ref dd, .ref de, .int (nI ww), .ref df, .ref dg, .ref dh])), (d1, .inl (cI, 60, .inl fk))]) hx hb hr hlocks hK (hP.sub [0, 1] rfl) (hD.sub [0, 1] (by decide) rfl) hS (by decide) ?_ d_Mod_isEnd_30
      exact ⟨by rw [eK, kA_nI (by omega) hn, decide_eq_true c_22]; rfl, rfl⟩
abbrev y_Mod_get : MethodName := ⟨"ScanMillModel", "get", "(I)I"⟩
theorem d_Mod_get_0 : decode prog_7_method_24_code 0 = .ok (.aload_n 0, 1) := by decide +kernel
theorem d_Mod_get_1 : decode prog_7_method_24_code 1 = .ok (.getfield 39, 3) := by decide +kernel
theorem d_Mod_get_4 : decode prog_7_method_24_code 4 = .ok (.iload_n 1, 1) := by decide +kernel
theorem d_Mod_get_5 : decode prog_7_method_24_code 5 = .ok (.iaload, 1) := by decide +kernel
theorem d_Mod_get_6 : decode prog_7_method_24_code 6 = .ok (.iconst (-1), 1) := by decide +kernel
theorem d_Mod_get_7 : decode prog_7_method_24_code 7 = .ok (.if_icmp .eq 17, 3) := by decide +kernel
theorem d_Mod_get_24 : decode prog_7_method_24_code 24 = .ok (.aload_n 0, 1) := by decide +kernel
theorem d_Mod_get_25 : decode prog_7_method_24_code 25 = .ok (.getfield 54, 3) := by decide +kernel
theorem mw_630 : Cond.fieldLink "ScanMillModel" 54 "ScanMillModel" "inSlot" "[I" ∈ wG := wG_t 630 (by decide +kernel) (by decide +kernel)
theorem d_Mod_get_28 : decode prog_7_method_24_code 28 = .ok (.aload_n 0, 1) := by decide +kernel
theorem d_Mod_get_29 : decode prog_7_method_24_code 29 = .ok (.getfield 42, 3) := by decide +kernel
theorem d_Mod_get_32 : decode prog_7_method_24_code 32 = .ok (.iload_n 1, 1) := by decide +kernel
theorem d_Mod_get_33 : decode prog_7_method_24_code 33 = .ok (.iaload, 1) := by decide +kernel
theorem d_Mod_get_34 : decode prog_7_method_24_code 34 = .ok (.iaload, 1) := by decide +kernel
theorem d_Mod_get_35 : decode prog_7_method_24_code 35 = .ok (.ireturn, 1) := by decide +kernel
theorem d_Mod_get_10 : decode prog_7_method_24_code 10 = .ok (.aload_n 0, 1) := by decide +kernel
theorem d_Mod_get_11 : decode prog_7_method_24_code 11 = .ok (.getfield 51, 3) := by decide +kernel
theorem mw_629 : Cond.fieldLink "ScanMillModel" 51 "ScanMillModel" "inRegister" "[I" ∈ wG := wG_t 629 (by decide +kernel) (by decide +kernel)
theorem d_Mod_get_14 : decode prog_7_method_24_code 14 = .ok (.aload_n 0, 1) := by decide +kernel
theorem d_Mod_get_15 : decode prog_7_method_24_code 15 = .ok (.getfield 39, 3) := by decide +kernel
theorem d_Mod_get_18 : decode prog_7_method_24_code 18 = .ok (.iload_n 1, 1) := by decide +kernel
theorem d_Mod_get_19 : decode prog_7_method_24_code 19 = .ok (.iaload, 1) := by decide +kernel
theorem d_Mod_get_20 : decode prog_7_method_24_code 20 = .ok (.iaload, 1) := by decide +kernel
theorem d_Mod_get_21 : decode prog_7_method_24_code 21 = .ok (.goto 14, 3) := by decide +kernel
set_option maxRecDepth 100000 in
set_option maxHeartbeats 4000000 in
theorem c_Mod_get {l : Launch} {dC : Nat → ClassId} {dI : Nat → Nat → Nat} {cI cZ : ClassId} {md d1 d2 d3 d4 d5 d6 d7 d8 d9 da db dc dd de df dg dh n wt nr ns sp cl2 np ww : Nat} {th isS sta nx : Int32} {mr ms gr gs : Nat → Int32} {v : Int32} (hv1 : inB v 24 = true) (hp1 : plOk mr ms v.toNatClampNeg) : sm_I l y_Mod_get prog_7_method_24_code 2 (some .int) (rmF 0 0) (dC, dI) smC [(cI, .int), (cZ, .boolean)] [.ref md, .int v] [(md, .inr (5, [.int th, .int (nI n), .ref d1, .ref d2, .ref d3, .ref d4, .int (nI wt), .int isS, .int (nI nr), .int (nI ns), .ref d5, .ref d6, .ref d7, .ref d8, .ref d9, .ref da, .ref db, .int sta, .int nx, .int (nI sp), .int (nI cl2), .int (nI np), .ref dc, .ref dd, .ref de, .int (nI ww), .ref df, .ref dg, .ref dh])), (d9, .inl (cI, 24, .inl mr)), (da, .inl (cI, 24, .inl ms)), (dd, .inl (cI, 8, .inl gr)), (de, .inl (cI, 24, .inl gs))] (fun q w2 => q = (rdM mr ms gr gs v) ∧ w2 = [(md, .inr (5, [.int th, .int (nI n), .ref d1, .ref d2, .ref d3, .ref d4, .int (nI wt), .int isS, .int (nI nr), .int (nI ns), .ref d5, .ref d6, .ref d7, .ref d8, .ref d9, .ref da, .ref db, .int sta, .int nx, .int (nI sp), .int (nI cl2), .int (nI np), .ref dc, .ref dd, .ref de, .int (nI ww), .ref df, .ref dg, .ref dh])), (d9, .inl (cI, 24, .inl mr)), (da, .inl (cI, 24, .inl ms)), (dd, .inl (cI, 8, .inl gr)), (de, .inl (cI, 24, .inl gs))]) := by
  refine sm_I.mk (by decide) (Nat.le_of_ble_eq_true rfl) ?_
  intro p e s m below meth c A H locs ls hx hb hr ht hown hlocks hml hnm hP hK hD hA hS hN hl
  have hl : lv_has ls 2 [(0, .ref md), (1, .int v)] := hl
  refine lv_aload_n hx hb d_Mod_get_0 rfl (lv_at hl 0 rfl) ?_
  refine va_get (D := (dC, dI)) (ci := 5) (v := .ref d9) (C := R_Mod) (T := T_Mod) (N := 29) hx hb ht i_Mod hown hK hP 0 rfl rfl 14 (by decide) (ht _ mw_620) (fun _ h9 => h9) rfl d_Mod_get_1 ?_
  refine lv_iload_n hx hb d_Mod_get_4 rfl (lv_at hl 1 rfl) ?_
  refine sm_iald (j := v.toNatClampNeg) hx hb hK hP 1 0 rfl rfl (sm_inB hv1) rfl d_Mod_get_5 ?_
  refine lv_iconst (v := -1) hx hb d_Mod_get_6 (by decide) ?_
  refine lv_icmp_eq (tgt := 24) hx hb d_Mod_get_7 (by decide) (fun c_7 => ?_) (fun c_7 => ?_)
  · skip
    refine lv_aload_n hx hb d_Mod_get_24 rfl (lv_at hl 0 rfl) ?_
    refine va_get (D := (dC, dI)) (ci := 5) (v := .ref de) (C := R_Mod) (T := T_Mod) (N := 29) hx hb ht i_Mod hown hK hP 0 rfl rfl 24 (by decide) (ht _ mw_630) (fun _ h9 => h9) rfl d_Mod_get_25 ?_
    refine lv_aload_n hx hb d_Mod_get_28 rfl (lv_at hl 0 rfl) ?_
    refine va_get (D := (dC, dI)) (ci := 5) (v := .ref da) (C := R_Mod) (T := T_Mod) (N := 29) hx hb ht i_Mod hown hK hP 0 rfl rfl 15 (by decide) (ht _ mw_621) (fun _ h9 => h9) rfl d_Mod_get_29 ?_
    refine lv_iload_n hx hb d_Mod_get_32 rfl (lv_at hl 1 rfl) ?_
    refine sm_iald (j := v.toNatClampNeg) hx hb hK hP 2 0 rfl rfl (sm_inB hv1) rfl d_Mod_get_33 ?_
    refine sm_iald (j := (ms v.toNatClampNeg).toNatClampNeg) hx hb hK hP 4 0 rfl rfl (sm_inB (hp1.1 c_7)) rfl d_Mod_get_34 ?_
    refine sm_ri (v := gs ((ms v.toNatClampNeg).toNatClampNeg)) (ws := [(md, .inr (5, [.int th, .int (nI n), .ref d1, .ref d2, .ref d3, .ref d4, .int (nI wt), .int isS, .int (nI nr), .int (nI ns), .ref d5, .ref d6, .ref d7, .ref d8, .ref d9, .ref da, .ref db, .int sta, .int nx, .int (nI sp), .int (nI cl2), .int (nI np), .ref dc, .ref dd, .ref de, .int (nI ww), .ref df, .ref dg, .ref dh])), (d9, .inl (cI, 24, .inl mr)), (da, .inl (cI, 24, .inl ms)), (dd, .inl (cI, 8, .inl gr)), (de, .inl (cI, 24, .inl gs))]) hx hb hr hlocks hK (hP.sub [0, 1, 2, 3, 4] rfl) (hD.sub [0, 1, 2, 3, 4] (by decide) rfl) hS ?_ d_Mod_get_35
    exact ⟨rdM_s hv1 hp1 c_7, rfl⟩
  · skip
    refine lv_aload_n hx hb d_Mod_get_10 rfl (lv_at hl 0 rfl) ?_
    refine va_get (D := (dC, dI)) (ci := 5) (v := .ref dd) (C := R_Mod) (T := T_Mod) (N := 29) hx hb ht i_Mod hown hK hP 0 rfl rfl 23 (by decide) (ht _ mw_629) (fun _ h9 => h9) rfl d_Mod_get_11 ?_
    refine lv_aload_n hx hb d_Mod_get_14 rfl (lv_at hl 0 rfl) ?_
    refine va_get (D := (dC, dI)) (ci := 5) (v := .ref d9) (C := R_Mod) (T := T_Mod) (N := 29) hx hb ht i_Mod hown hK hP 0 rfl rfl 14 (by decide) (ht _ mw_620) (fun _ h9 => h9) rfl d_Mod_get_15 ?_
    refine lv_iload_n hx hb d_Mod_get_18 rfl (lv_at hl 1 rfl) ?_
    refine sm_iald (j := v.toNatClampNeg) hx hb hK hP 1 0 rfl rfl (sm_inB hv1) rfl d_Mod_get_19 ?_
    refine sm_iald (j := (mr v.toNatClampNeg).toNatClampNeg) hx hb hK hP 3 0 rfl rfl (sm_inB (hp1.2 c_7)) rfl d_Mod_get_20 ?_
    refine lv_goto (tgt := 35) hx hb d_Mod_get_21 (by decide) ?_
    refine sm_ri (v := gr ((mr v.toNatClampNeg).toNatClampNeg)) (ws := [(md, .inr (5, [.int th, .int (nI n), .ref d1, .ref d2, .ref d3, .ref d4, .int (nI wt), .int isS, .int (nI nr), .int (nI ns), .ref d5, .ref d6, .ref d7, .ref d8, .ref d9, .ref da, .ref db, .int sta, .int nx, .int (nI sp), .int (nI cl2), .int (nI np), .ref dc, .ref dd, .ref de, .int (nI ww), .ref df, .ref dg, .ref dh])), (d9, .inl (cI, 24, .inl mr)), (da, .inl (cI, 24, .inl ms)), (dd, .inl (cI, 8, .inl gr)), (de, .inl (cI, 24, .inl gs))]) hx hb hr hlocks hK (hP.sub [0, 1, 2, 3, 4] rfl) (hD.sub [0, 1, 2, 3, 4] (by decide) rfl) hS ?_ d_Mod_get_35
    exact ⟨rdM_r hv1 hp1 c_7, rfl⟩
abbrev y_Mod_set : MethodName := ⟨"ScanMillModel", "set", "(II)V"⟩
theorem d_Mod_set_0 : decode prog_7_method_25_code 0 = .ok (.aload_n 0, 1) := by decide +kernel
theorem d_Mod_set_1 : decode prog_7_method_25_code 1 = .ok (.getfield 39, 3) := by decide +kernel
theorem d_Mod_set_4 : decode prog_7_method_25_code 4 = .ok (.iload_n 1, 1) := by decide +kernel
theorem d_Mod_set_5 : decode prog_7_method_25_code 5 = .ok (.iaload, 1) := by decide +kernel
theorem d_Mod_set_6 : decode prog_7_method_25_code 6 = .ok (.iconst (-1), 1) := by decide +kernel
theorem d_Mod_set_7 : decode prog_7_method_25_code 7 = .ok (.if_icmp .eq 18, 3) := by decide +kernel
theorem d_Mod_set_25 : decode prog_7_method_25_code 25 = .ok (.aload_n 0, 1) := by decide +kernel
theorem d_Mod_set_26 : decode prog_7_method_25_code 26 = .ok (.getfield 54, 3) := by decide +kernel
theorem d_Mod_set_29 : decode prog_7_method_25_code 29 = .ok (.aload_n 0, 1) := by decide +kernel
theorem d_Mod_set_30 : decode prog_7_method_25_code 30 = .ok (.getfield 42, 3) := by decide +kernel
theorem d_Mod_set_33 : decode prog_7_method_25_code 33 = .ok (.iload_n 1, 1) := by decide +kernel
theorem d_Mod_set_34 : decode prog_7_method_25_code 34 = .ok (.iaload, 1) := by decide +kernel
theorem d_Mod_set_35 : decode prog_7_method_25_code 35 = .ok (.iload_n 2, 1) := by decide +kernel
theorem d_Mod_set_36 : decode prog_7_method_25_code 36 = .ok (.iastore, 1) := by decide +kernel
theorem d_Mod_set_37 : decode prog_7_method_25_code 37 = .ok (.return_, 1) := by decide +kernel
theorem d_Mod_set_10 : decode prog_7_method_25_code 10 = .ok (.aload_n 0, 1) := by decide +kernel
theorem d_Mod_set_11 : decode prog_7_method_25_code 11 = .ok (.getfield 51, 3) := by decide +kernel
theorem d_Mod_set_14 : decode prog_7_method_25_code 14 = .ok (.aload_n 0, 1) := by decide +kernel
theorem d_Mod_set_15 : decode prog_7_method_25_code 15 = .ok (.getfield 39, 3) := by decide +kernel
theorem d_Mod_set_18 : decode prog_7_method_25_code 18 = .ok (.iload_n 1, 1) := by decide +kernel
theorem d_Mod_set_19 : decode prog_7_method_25_code 19 = .ok (.iaload, 1) := by decide +kernel
theorem d_Mod_set_20 : decode prog_7_method_25_code 20 = .ok (.iload_n 2, 1) := by decide +kernel
theorem d_Mod_set_21 : decode prog_7_method_25_code 21 = .ok (.iastore, 1) := by decide +kernel
theorem d_Mod_set_22 : decode prog_7_method_25_code 22 = .ok (.goto 15, 3) := by decide +kernel
set_option maxRecDepth 100000 in
set_option maxHeartbeats 4000000 in
theorem c_Mod_set {l : Launch} {dC : Nat → ClassId} {dI : Nat → Nat → Nat} {cI cZ : ClassId} {md d1 d2 d3 d4 d5 d6 d7 d8 d9 da db dc dd de df dg dh n wt nr ns sp cl2 np ww : Nat} {th isS sta nx : Int32} {mr ms gr gs : Nat → Int32} {v x : Int32} (hv1 : inB v 24 = true) (hp1 : plOk mr ms v.toNatClampNeg) : sm_V l y_Mod_set prog_7_method_25_code 3 none (rmF 0 0) (dC, dI) smC [(cI, .int), (cZ, .boolean)] [.ref md, .int v, .int x] [(md, .inr (5, [.int th, .int (nI n), .ref d1, .ref d2, .ref d3, .ref d4, .int (nI wt), .int isS, .int (nI nr), .int (nI ns), .ref d5, .ref d6, .ref d7, .ref d8, .ref d9, .ref da, .ref db, .int sta, .int nx, .int (nI sp), .int (nI cl2), .int (nI np), .ref dc, .ref dd, .ref de, .int (nI ww), .ref df, .ref dg, .ref dh])), (d9, .inl (cI, 24, .inl mr)), (da, .inl (cI, 24, .inl ms)), (dd, .inl (cI, 8, .inl gr)), (de, .inl (cI, 24, .inl gs))] (fun w2 => w2 = [(md, .inr (5, [.int th, .int (nI n), .ref d1, .ref d2, .ref d3, .ref d4, .int (nI wt), .int isS, .int (nI nr), .int (nI ns), .ref d5, .ref d6, .ref d7, .ref d8, .ref d9, .ref da, .ref db, .int sta, .int nx, .int (nI sp), .int (nI cl2), .int (nI np), .ref dc, .ref dd, .ref de, .int (nI ww), .ref df, .ref dg, .ref dh])), (d9, .inl (cI, 24, .inl mr)), (da, .inl (cI, 24, .inl ms)), (dd, .inl (cI, 8, .inl ((wrM mr ms gr gs v x).1))), (de, .inl (cI, 24, .inl ((wrM mr ms gr gs v x).2)))]) := by
  refine sm_V.mk (by decide) (Nat.le_of_ble_eq_true rfl) ?_
  intro p e s m below meth c A H locs ls hx hb hr ht hown hlocks hml hnm hP hK hD hA hS hN hl
  have hl : lv_has ls 3 [(0, .ref md), (1, .int v), (2, .int x)] := hl
  refine lv_aload_n hx hb d_Mod_set_0 rfl (lv_at hl 0 rfl) ?_
  refine va_get (D := (dC, dI)) (ci := 5) (v := .ref d9) (C := R_Mod) (T := T_Mod) (N := 29) hx hb ht i_Mod hown hK hP 0 rfl rfl 14 (by decide) (ht _ mw_620) (fun _ h9 => h9) rfl d_Mod_set_1 ?_
  refine lv_iload_n hx hb d_Mod_set_4 rfl (lv_at hl 1 rfl) ?_
  refine sm_iald (j := v.toNatClampNeg) hx hb hK hP 1 0 rfl rfl (sm_inB hv1) rfl d_Mod_set_5 ?_
  refine lv_iconst (v := -1) hx hb d_Mod_set_6 (by decide) ?_
  refine lv_icmp_eq (tgt := 25) hx hb d_Mod_set_7 (by decide) (fun c_7 => ?_) (fun c_7 => ?_)
  · skip
    refine lv_aload_n hx hb d_Mod_set_25 rfl (lv_at hl 0 rfl) ?_
    refine va_get (D := (dC, dI)) (ci := 5) (v := .ref de) (C := R_Mod) (T := T_Mod) (N := 29) hx hb ht i_Mod hown hK hP 0 rfl rfl 24 (by decide) (ht _ mw_630) (fun _ h9 => h9) rfl d_Mod_set_26 ?_
    refine lv_aload_n hx hb d_Mod_set_29 rfl (lv_at hl 0 rfl) ?_
    refine va_get (D := (dC, dI)) (ci := 5) (v := .ref da) (C := R_Mod) (T := T_Mod) (N := 29) hx hb ht i_Mod hown hK hP 0 rfl rfl 15 (by decide) (ht _ mw_621) (fun _ h9 => h9) rfl d_Mod_set_30 ?_
    refine lv_iload_n hx hb d_Mod_set_33 rfl (lv_at hl 1 rfl) ?_
    refine sm_iald (j := v.toNatClampNeg) hx hb hK hP 2 0 rfl rfl (sm_inB hv1) rfl d_Mod_set_34 ?_
    refine lv_iload_n hx hb d_Mod_set_35 rfl (lv_at hl 2 rfl) ?_
    refine sm_iast (j := (ms v.toNatClampNeg).toNatClampNeg) hx hb hK hP hD hS 4 0 rfl rfl (sm_inB (hp1.1 c_7)) rfl d_Mod_set_36 (fun H locs hP hD hS => ?_)
    have hP : va_P (dC, dI) smC [(md, .inr (5, [.int th, .int (nI n), .ref d1, .ref d2, .ref d3, .ref d4, .int (nI wt), .int isS, .int (nI nr), .int (nI ns), .ref d5, .ref d6, .ref d7, .ref d8, .ref d9, .ref da, .ref db, .int sta, .int nx, .int (nI sp), .int (nI cl2), .int (nI np), .ref dc, .ref dd, .ref de, .int (nI ww), .ref df, .ref dg, .ref dh])), (d9, .inl (cI, 24, .inl mr)), (da, .inl (cI, 24, .inl ms)), (dd, .inl (cI, 8, .inl gr)), (de, .inl (cI, 24, .inl (upd gs ((ms v.toNatClampNeg).toNatClampNeg) x)))] H := hP
    have hD : va_D A [(md, .inr (5, [.int th, .int (nI n), .ref d1, .ref d2, .ref d3, .ref d4, .int (nI wt), .int isS, .int (nI nr), .int (nI ns), .ref d5, .ref d6, .ref d7, .ref d8, .ref d9, .ref da, .ref db, .int sta, .int nx, .int (nI sp), .int (nI cl2), .int (nI np), .ref dc, .ref dd, .ref de, .int (nI ww), .ref df, .ref dg, .ref dh])), (d9, .inl (cI, 24, .inl mr)), (da, .inl (cI, 24, .inl ms)), (dd, .inl (cI, 8, .inl gr)), (de, .inl (cI, 24, .inl (upd gs ((ms v.toNatClampNeg).toNatClampNeg) x)))] := hD
    refine sm_rv (ws := [(md, .inr (5, [.int th, .int (nI n), .ref d1, .ref d2, .ref d3, .ref d4, .int (nI wt), .int isS, .int (nI nr), .int (nI ns), .ref d5, .ref d6, .ref d7, .ref d8, .ref d9, .ref da, .ref db, .int sta, .int nx, .int (nI sp), .int (nI cl2), .int (nI np), .ref dc, .ref dd, .ref de, .int (nI ww), .ref df, .ref dg, .ref dh])), (d9, .inl (cI, 24, .inl mr)), (da, .inl (cI, 24, .inl ms)), (dd, .inl (cI, 8, .inl gr)), (de, .inl (cI, 24, .inl (upd gs ((ms v.toNatClampNeg).toNatClampNeg) x)))]) hx hb hr hlocks hK (hP.sub [0, 1, 2, 3, 4] rfl) (hD.sub [0, 1, 2, 3, 4] (by decide) rfl) hS ?_ d_Mod_set_37
    show _ = _
    rw [wrM_s hv1 hp1 c_7]
  · skip
    refine lv_aload_n hx hb d_Mod_set_10 rfl (lv_at hl 0 rfl) ?_
    refine va_get (D := (dC, dI)) (ci := 5) (v := .ref dd) (C := R_Mod) (T := T_Mod) (N := 29) hx hb ht i_Mod hown hK hP 0 rfl rfl 23 (by decide) (ht _ mw_629) (fun _ h9 => h9) rfl d_Mod_set_11 ?_
    refine lv_aload_n hx hb d_Mod_set_14 rfl (lv_at hl 0 rfl) ?_
    refine va_get (D := (dC, dI)) (ci := 5) (v := .ref d9) (C := R_Mod) (T := T_Mod) (N := 29) hx hb ht i_Mod hown hK hP 0 rfl rfl 14 (by decide) (ht _ mw_620) (fun _ h9 => h9) rfl d_Mod_set_15 ?_
    refine lv_iload_n hx hb d_Mod_set_18 rfl (lv_at hl 1 rfl) ?_
    refine sm_iald (j := v.toNatClampNeg) hx hb hK hP 1 0 rfl rfl (sm_inB hv1) rfl d_Mod_set_19 ?_
    refine lv_iload_n hx hb d_Mod_set_20 rfl (lv_at hl 2 rfl) ?_
    refine sm_iast (j := (mr v.toNatClampNeg).toNatClampNeg) hx hb hK hP hD hS 3 0 rfl rfl (sm_inB (hp1.2 c_7)) rfl d_Mod_set_21 (fun H locs hP hD hS => ?_)
    have hP : va_P (dC, dI) smC [(md, .inr (5, [.int th, .int (nI n), .ref d1, .ref d2, .ref d3, .ref d4, .int (nI wt), .int isS, .int (nI nr), .int (nI ns), .ref d5, .ref d6, .ref d7, .ref d8, .ref d9, .ref da, .ref db, .int sta, .int nx, .int (nI sp), .int (nI cl2), .int (nI np), .ref dc, .ref dd, .ref de, .int (nI ww), .ref df, .ref dg, .ref dh])), (d9, .inl (cI, 24, .inl mr)), (da, .inl (cI, 24, .inl ms)), (dd, .inl (cI, 8, .inl (upd gr ((mr v.toNatClampNeg).toNatClampNeg) x))), (de, .inl (cI, 24, .inl gs))] H := hP
    have hD : va_D A [(md, .inr (5, [.int th, .int (nI n), .ref d1, .ref d2, .ref d3, .ref d4, .int (nI wt), .int isS, .int (nI nr), .int (nI ns), .ref d5, .ref d6, .ref d7, .ref d8, .ref d9, .ref da, .ref db, .int sta, .int nx, .int (nI sp), .int (nI cl2), .int (nI np), .ref dc, .ref dd, .ref de, .int (nI ww), .ref df, .ref dg, .ref dh])), (d9, .inl (cI, 24, .inl mr)), (da, .inl (cI, 24, .inl ms)), (dd, .inl (cI, 8, .inl (upd gr ((mr v.toNatClampNeg).toNatClampNeg) x))), (de, .inl (cI, 24, .inl gs))] := hD
    refine lv_goto (tgt := 37) hx hb d_Mod_set_22 (by decide) ?_
    refine sm_rv (ws := [(md, .inr (5, [.int th, .int (nI n), .ref d1, .ref d2, .ref d3, .ref d4, .int (nI wt), .int isS, .int (nI nr), .int (nI ns), .ref d5, .ref d6, .ref d7, .ref d8, .ref d9, .ref da, .ref db, .int sta, .int nx, .int (nI sp), .int (nI cl2), .int (nI np), .ref dc, .ref dd, .ref de, .int (nI ww), .ref df, .ref dg, .ref dh])), (d9, .inl (cI, 24, .inl mr)), (da, .inl (cI, 24, .inl ms)), (dd, .inl (cI, 8, .inl (upd gr ((mr v.toNatClampNeg).toNatClampNeg) x))), (de, .inl (cI, 24, .inl gs))]) hx hb hr hlocks hK (hP.sub [0, 1, 2, 3, 4] rfl) (hD.sub [0, 1, 2, 3, 4] (by decide) rfl) hS ?_ d_Mod_set_37
    show _ = _
    rw [wrM_r hv1 hp1 c_7]
abbrev y_Mod_start : MethodName := ⟨"ScanMillModel", "start", "()V"⟩
theorem d_Mod_start_0 : decode prog_7_method_22_code 0 = .ok (.aload_n 0, 1) := by decide +kernel
theorem d_Mod_start_1 : decode prog_7_method_22_code 1 = .ok (.aload_n 0, 1) := by decide +kernel
theorem d_Mod_start_2 : decode prog_7_method_22_code 2 = .ok (.getfield 73, 3) := by decide +kernel
theorem d_Mod_start_5 : decode prog_7_method_22_code 5 = .ok (.ifCond .eq 7, 3) := by decide +kernel
theorem d_Mod_start_12 : decode prog_7_method_22_code 12 = .ok (.iconst 1, 1) := by decide +kernel
theorem d_Mod_start_13 : decode prog_7_method_22_code 13 = .ok (.putfield 66, 3) := by decide +kernel
theorem d_Mod_start_16 : decode prog_7_method_22_code 16 = .ok (.aload_n 0, 1) := by decide +kernel
theorem d_Mod_start_17 : decode prog_7_method_22_code 17 = .ok (.getfield 66, 3) := by decide +kernel
theorem d_Mod_start_20 : decode prog_7_method_22_code 20 = .ok (.ifCond .eq 4, 3) := by decide +kernel
theorem d_Mod_start_23 : decode prog_7_method_22_code 23 = .ok (.return_, 1) := by decide +kernel
theorem d_Mod_start_8 : decode prog_7_method_22_code 8 = .ok (.iconst 0, 1) := by decide +kernel
theorem d_Mod_start_9 : decode prog_7_method_22_code 9 = .ok (.goto 4, 3) := by decide +kernel
theorem d_Mod_start_24 : decode prog_7_method_22_code 24 = .ok (.aload_n 0, 1) := by decide +kernel
theorem d_Mod_start_25 : decode prog_7_method_22_code 25 = .ok (.iconst 1, 1) := by decide +kernel
theorem d_Mod_start_26 : decode prog_7_method_22_code 26 = .ok (.putfield 77, 3) := by decide +kernel
theorem d_Mod_start_29 : decode prog_7_method_22_code 29 = .ok (.aload_n 0, 1) := by decide +kernel
theorem d_Mod_start_30 : decode prog_7_method_22_code 30 = .ok (.iconst 0, 1) := by decide +kernel
theorem d_Mod_start_31 : decode prog_7_method_22_code 31 = .ok (.putfield 133, 3) := by decide +kernel
theorem d_Mod_start_34 : decode prog_7_method_22_code 34 = .ok (.aload_n 0, 1) := by decide +kernel
theorem d_Mod_start_35 : decode prog_7_method_22_code 35 = .ok (.iconst 0, 1) := by decide +kernel
theorem d_Mod_start_36 : decode prog_7_method_22_code 36 = .ok (.putfield 136, 3) := by decide +kernel
theorem mw_625 : Cond.fieldLink "ScanMillModel" 136 "ScanMillModel" "steps" "I" ∈ wG := wG_t 625 (by decide +kernel) (by decide +kernel)
theorem d_Mod_start_39 : decode prog_7_method_22_code 39 = .ok (.aload_n 0, 1) := by decide +kernel
theorem d_Mod_start_40 : decode prog_7_method_22_code 40 = .ok (.iconst 0, 1) := by decide +kernel
theorem d_Mod_start_41 : decode prog_7_method_22_code 41 = .ok (.putfield 139, 3) := by decide +kernel
theorem mw_626 : Cond.fieldLink "ScanMillModel" 139 "ScanMillModel" "calls" "I" ∈ wG := wG_t 626 (by decide +kernel) (by decide +kernel)
theorem d_Mod_start_44 : decode prog_7_method_22_code 44 = .ok (.aload_n 0, 1) := by decide +kernel
theorem d_Mod_start_45 : decode prog_7_method_22_code 45 = .ok (.iconst 0, 1) := by decide +kernel
theorem d_Mod_start_46 : decode prog_7_method_22_code 46 = .ok (.putfield 142, 3) := by decide +kernel
theorem mw_627 : Cond.fieldLink "ScanMillModel" 142 "ScanMillModel" "outs" "I" ∈ wG := wG_t 627 (by decide +kernel) (by decide +kernel)
theorem d_Mod_start_49 : decode prog_7_method_22_code 49 = .ok (.iconst 0, 1) := by decide +kernel
theorem d_Mod_start_50 : decode prog_7_method_22_code 50 = .ok (.istore_n 1, 1) := by decide +kernel
theorem d_Mod_start_51 : decode prog_7_method_22_code 51 = .ok (.iload_n 1, 1) := by decide +kernel
theorem d_Mod_start_52 : decode prog_7_method_22_code 52 = .ok (.bipush 8, 2) := by decide +kernel
theorem d_Mod_start_54 : decode prog_7_method_22_code 54 = .ok (.if_icmp .ge 16, 3) := by decide +kernel
theorem d_Mod_start_70 : decode prog_7_method_22_code 70 = .ok (.iconst 0, 1) := by decide +kernel
theorem d_Mod_start_71 : decode prog_7_method_22_code 71 = .ok (.istore_n 1, 1) := by decide +kernel
theorem d_Mod_start_72 : decode prog_7_method_22_code 72 = .ok (.iload_n 1, 1) := by decide +kernel
theorem d_Mod_start_73 : decode prog_7_method_22_code 73 = .ok (.bipush 24, 2) := by decide +kernel
theorem d_Mod_start_75 : decode prog_7_method_22_code 75 = .ok (.if_icmp .ge 16, 3) := by decide +kernel
theorem d_Mod_start_91 : decode prog_7_method_22_code 91 = .ok (.aload_n 0, 1) := by decide +kernel
theorem d_Mod_start_92 : decode prog_7_method_22_code 92 = .ok (.invokevirtual 145, 3) := by decide +kernel
theorem mw_779 : Cond.code ⟨"ScanMillModel", "isEnd", "()Z"⟩ prog_7_method_23_code 1 (Option.some FieldType.boolean) ∈ wG := wG_t 779 (by decide +kernel) (by decide +kernel)
theorem mw_776 : Cond.methodLink "ScanMillModel" 145 ⟨"ScanMillModel", "isEnd", "()Z"⟩ ∈ wG := wG_t 776 (by decide +kernel) (by decide +kernel)
theorem mw_778 : Cond.instanceMethod ⟨"ScanMillModel", "isEnd", "()Z"⟩ ∈ wG := wG_t 778 (by decide +kernel) (by decide +kernel)
theorem mp_32 : Cond.selects "ScanMillModel" ⟨"ScanMillModel", "isEnd", "()Z"⟩ ⟨"ScanMillModel", "isEnd", "()Z"⟩ ∈ wG := wG_p 32 (by decide +kernel) (by decide +kernel)
theorem d_Mod_start_95 : decode prog_7_method_22_code 95 = .ok (.ifCond .eq 8, 3) := by decide +kernel
theorem d_Mod_start_103 : decode prog_7_method_22_code 103 = .ok (.return_, 1) := by decide +kernel
theorem d_Mod_start_98 : decode prog_7_method_22_code 98 = .ok (.aload_n 0, 1) := by decide +kernel
theorem d_Mod_start_99 : decode prog_7_method_22_code 99 = .ok (.iconst 2, 1) := by decide +kernel
theorem d_Mod_start_100 : decode prog_7_method_22_code 100 = .ok (.putfield 77, 3) := by decide +kernel
theorem d_Mod_start_78 : decode prog_7_method_22_code 78 = .ok (.aload_n 0, 1) := by decide +kernel
theorem d_Mod_start_79 : decode prog_7_method_22_code 79 = .ok (.getfield 54, 3) := by decide +kernel
theorem d_Mod_start_82 : decode prog_7_method_22_code 82 = .ok (.iload_n 1, 1) := by decide +kernel
theorem d_Mod_start_83 : decode prog_7_method_22_code 83 = .ok (.iconst 0, 1) := by decide +kernel
theorem d_Mod_start_84 : decode prog_7_method_22_code 84 = .ok (.iastore, 1) := by decide +kernel
theorem d_Mod_start_85 : decode prog_7_method_22_code 85 = .ok (.iinc 1 1, 3) := by decide +kernel
theorem d_Mod_start_88 : decode prog_7_method_22_code 88 = .ok (.goto (-16), 3) := by decide +kernel
theorem d_Mod_start_57 : decode prog_7_method_22_code 57 = .ok (.aload_n 0, 1) := by decide +kernel
theorem d_Mod_start_58 : decode prog_7_method_22_code 58 = .ok (.getfield 51, 3) := by decide +kernel
theorem d_Mod_start_61 : decode prog_7_method_22_code 61 = .ok (.iload_n 1, 1) := by decide +kernel
theorem d_Mod_start_62 : decode prog_7_method_22_code 62 = .ok (.iconst 0, 1) := by decide +kernel
theorem d_Mod_start_63 : decode prog_7_method_22_code 63 = .ok (.iastore, 1) := by decide +kernel
theorem d_Mod_start_64 : decode prog_7_method_22_code 64 = .ok (.iinc 1 1, 3) := by decide +kernel
theorem d_Mod_start_67 : decode prog_7_method_22_code 67 = .ok (.goto (-16), 3) := by decide +kernel
set_option maxRecDepth 100000 in
set_option maxHeartbeats 4000000 in
theorem c_Mod_start {l : Launch} {dC : Nat → ClassId} {dI : Nat → Nat → Nat} {cI cZ : ClassId} {md d1 d2 d3 d4 d5 d6 d7 d8 d9 da db dc dd de df dg dh n wt nr ns sp cl2 np ww : Nat} {th isS sta nx : Int32} {fk gr gs : Nat → Int32} (hn : n ≤ 60) : sm_V l y_Mod_start prog_7_method_22_code 2 none (rmF 1 20) (dC, dI) smC [(cI, .int), (cZ, .boolean)] [.ref md] [(md, .inr (5, [.int th, .int (nI n), .ref d1, .ref d2, .ref d3, .ref d4, .int (nI wt), .int isS, .int (nI nr), .int (nI ns), .ref d5, .ref d6, .ref d7, .ref d8, .ref d9, .ref da, .ref db, .int sta, .int nx, .int (nI sp), .int (nI cl2), .int (nI np), .ref dc, .ref dd, .ref de, .int (nI ww), .ref df, .ref dg, .ref dh])), (d1, .inl (cI, 60, .inl fk)), (dd, .inl (cI, 8, .inl gr)), (de, .inl (cI, 24, .inl gs))] (fun w2 => (isS = 0 ∧ w2 = [(md, .inr (5, [.int ((1 : Int32)), .int (nI n), .ref d1, .ref d2, .ref d3, .ref d4, .int (nI wt), .int isS, .int (nI nr), .int (nI ns), .ref d5, .ref d6, .ref d7, .ref d8, .ref d9, .ref da, .ref db, .int sta, .int nx, .int (nI sp), .int (nI cl2), .int (nI np), .ref dc, .ref dd, .ref de, .int (nI ww), .ref df, .ref dg, .ref dh])), (d1, .inl (cI, 60, .inl fk)), (dd, .inl (cI, 8, .inl gr)), (de, .inl (cI, 24, .inl gs))]) ∨ ((¬ isS = 0) ∧ w2 = [(md, .inr (5, [.int ((0 : Int32)), .int (nI n), .ref d1, .ref d2, .ref d3, .ref d4, .int (nI wt), .int isS, .int (nI nr), .int (nI ns), .ref d5, .ref d6, .ref d7, .ref d8, .ref d9, .ref da, .ref db, .int (rst 1 n fk 0 0), .int ((0 : Int32)), .int ((0 : Int32)), .int ((0 : Int32)), .int ((0 : Int32)), .ref dc, .ref dd, .ref de, .int (nI ww), .ref df, .ref dg, .ref dh])), (d1, .inl (cI, 60, .inl fk)), (dd, .inl (cI, 8, .inl (fun _ => (0 : Int32)))), (de, .inl (cI, 24, .inl (fun _ => (0 : Int32))))])) := by
  refine sm_V.mk (by decide) (Nat.le_of_ble_eq_true rfl) ?_
  intro p e s m below meth c A H locs ls hx hb hr ht hown hlocks hml hnm hP hK hD hA hS hN hl
  have hl : lv_has ls 2 [(0, .ref md)] := hl
  refine lv_aload_n hx hb d_Mod_start_0 rfl (lv_at hl 0 rfl) ?_
  refine lv_aload_n hx hb d_Mod_start_1 rfl (lv_at hl 0 rfl) ?_
  refine va_get (D := (dC, dI)) (ci := 5) (v := .int isS) (C := R_Mod) (T := T_Mod) (N := 29) hx hb ht i_Mod hown hK hP 0 rfl rfl 7 (by decide) (ht _ mw_613) (fun _ h9 => h9) rfl d_Mod_start_2 ?_
  refine lv_if_eq (tgt := 12) hx hb d_Mod_start_5 (by decide) (fun c_5 => ?_) (fun c_5 => ?_)
  · skip
    refine lv_iconst (v := 1) hx hb d_Mod_start_12 (by decide) ?_
    refine va_put (D := (dC, dI)) (ci := 5) (v := .int ((1 : Int32))) (ty := .int) (C := R_Mod) (T := T_Mod) (N := 29) hx hb ht i_Mod t_Mod t_Mod_ok n_Mod hown hK hP hD hS 0 rfl rfl 0 (by decide) (ht _ mw_606) (fun _ h9 => h9) rfl (by decide +kernel) rfl rfl (Nat.le_of_ble_eq_true rfl) d_Mod_start_13 (fun H locs hP hD hS => ?_)
    have hP : va_P (dC, dI) smC [(md, .inr (5, [.int ((1 : Int32)), .int (nI n), .ref d1, .ref d2, .ref d3, .ref d4, .int (nI wt), .int isS, .int (nI nr), .int (nI ns), .ref d5, .ref d6, .ref d7, .ref d8, .ref d9, .ref da, .ref db, .int sta, .int nx, .int (nI sp), .int (nI cl2), .int (nI np), .ref dc, .ref dd, .ref de, .int (nI ww), .ref df, .ref dg, .ref dh])), (d1, .inl (cI, 60, .inl fk)), (dd, .inl (cI, 8, .inl gr)), (de, .inl (cI, 24, .inl gs))] H := hP
    have hD : va_D A [(md, .inr (5, [.int ((1 : Int32)), .int (nI n), .ref d1, .ref d2, .ref d3, .ref d4, .int (nI wt), .int isS, .int (nI nr), .int (nI ns), .ref d5, .ref d6, .ref d7, .ref d8, .ref d9, .ref da, .ref db, .int sta, .int nx, .int (nI sp), .int (nI cl2), .int (nI np), .ref dc, .ref dd, .ref de, .int (nI ww), .ref df, .ref dg, .ref dh])), (d1, .inl (cI, 60, .inl fk)), (dd, .inl (cI, 8, .inl gr)), (de, .inl (cI, 24, .inl gs))] := hD
    refine lv_aload_n hx hb d_Mod_start_16 rfl (lv_at hl 0 rfl) ?_
    refine va_get (D := (dC, dI)) (ci := 5) (v := .int ((1 : Int32))) (C := R_Mod) (T := T_Mod) (N := 29) hx hb ht i_Mod hown hK hP 0 rfl rfl 0 (by decide) (ht _ mw_606) (fun _ h9 => h9) rfl d_Mod_start_17 ?_
    refine lv_if_eq (tgt := 24) hx hb d_Mod_start_20 (by decide) (fun z => absurd z (by decide)) (fun _ => ?_)
    refine sm_rv (ws := [(md, .inr (5, [.int ((1 : Int32)), .int (nI n), .ref d1, .ref d2, .ref d3, .ref d4, .int (nI wt), .int isS, .int (nI nr), .int (nI ns), .ref d5, .ref d6, .ref d7, .ref d8, .ref d9, .ref da, .ref db, .int sta, .int nx, .int (nI sp), .int (nI cl2), .int (nI np), .ref dc, .ref dd, .ref de, .int (nI ww), .ref df, .ref dg, .ref dh])), (d1, .inl (cI, 60, .inl fk)), (dd, .inl (cI, 8, .inl gr)), (de, .inl (cI, 24, .inl gs))]) hx hb hr hlocks hK (hP.sub [0, 1, 2, 3] rfl) (hD.sub [0, 1, 2, 3] (by decide) rfl) hS ?_ d_Mod_start_23
    exact Or.inl ⟨c_5, rfl⟩
  · skip
    refine lv_iconst (v := 0) hx hb d_Mod_start_8 (by decide) ?_
    refine lv_goto (tgt := 13) hx hb d_Mod_start_9 (by decide) ?_
    refine va_put (D := (dC, dI)) (ci := 5) (v := .int ((0 : Int32))) (ty := .int) (C := R_Mod) (T := T_Mod) (N := 29) hx hb ht i_Mod t_Mod t_Mod_ok n_Mod hown hK hP hD hS 0 rfl rfl 0 (by decide) (ht _ mw_606) (fun _ h9 => h9) rfl (by decide +kernel) rfl rfl (Nat.le_of_ble_eq_true rfl) d_Mod_start_13 (fun H locs hP hD hS => ?_)
    have hP : va_P (dC, dI) smC [(md, .inr (5, [.int ((0 : Int32)), .int (nI n), .ref d1, .ref d2, .ref d3, .ref d4, .int (nI wt), .int isS, .int (nI nr), .int (nI ns), .ref d5, .ref d6, .ref d7, .ref d8, .ref d9, .ref da, .ref db, .int sta, .int nx, .int (nI sp), .int (nI cl2), .int (nI np), .ref dc, .ref dd, .ref de, .int (nI ww), .ref df, .ref dg, .ref dh])), (d1, .inl (cI, 60, .inl fk)), (dd, .inl (cI, 8, .inl gr)), (de, .inl (cI, 24, .inl gs))] H := hP
    have hD : va_D A [(md, .inr (5, [.int ((0 : Int32)), .int (nI n), .ref d1, .ref d2, .ref d3, .ref d4, .int (nI wt), .int isS, .int (nI nr), .int (nI ns), .ref d5, .ref d6, .ref d7, .ref d8, .ref d9, .ref da, .ref db, .int sta, .int nx, .int (nI sp), .int (nI cl2), .int (nI np), .ref dc, .ref dd, .ref de, .int (nI ww), .ref df, .ref dg, .ref dh])), (d1, .inl (cI, 60, .inl fk)), (dd, .inl (cI, 8, .inl gr)), (de, .inl (cI, 24, .inl gs))] := hD
    refine lv_aload_n hx hb d_Mod_start_16 rfl (lv_at hl 0 rfl) ?_
    refine va_get (D := (dC, dI)) (ci := 5) (v := .int ((0 : Int32))) (C := R_Mod) (T := T_Mod) (N := 29) hx hb ht i_Mod hown hK hP 0 rfl rfl 0 (by decide) (ht _ mw_606) (fun _ h9 => h9) rfl d_Mod_start_17 ?_
    refine lv_if_eq (tgt := 24) hx hb d_Mod_start_20 (by decide) (fun _ => ?_) (fun z => absurd z (by decide))
    refine lv_aload_n hx hb d_Mod_start_24 rfl (lv_at hl 0 rfl) ?_
    refine lv_iconst (v := 1) hx hb d_Mod_start_25 (by decide) ?_
    refine va_put (D := (dC, dI)) (ci := 5) (v := .int ((1 : Int32))) (ty := .int) (C := R_Mod) (T := T_Mod) (N := 29) hx hb ht i_Mod t_Mod t_Mod_ok n_Mod hown hK hP hD hS 0 rfl rfl 17 (by decide) (ht _ mw_623) (fun _ h9 => h9) rfl (by decide +kernel) rfl rfl (Nat.le_of_ble_eq_true rfl) d_Mod_start_26 (fun H locs hP hD hS => ?_)
    have hP : va_P (dC, dI) smC [(md, .inr (5, [.int ((0 : Int32)), .int (nI n), .ref d1, .ref d2, .ref d3, .ref d4, .int (nI wt), .int isS, .int (nI nr), .int (nI ns), .ref d5, .ref d6, .ref d7, .ref d8, .ref d9, .ref da, .ref db, .int ((1 : Int32)), .int nx, .int (nI sp), .int (nI cl2), .int (nI np), .ref dc, .ref dd, .ref de, .int (nI ww), .ref df, .ref dg, .ref dh])), (d1, .inl (cI, 60, .inl fk)), (dd, .inl (cI, 8, .inl gr)), (de, .inl (cI, 24, .inl gs))] H := hP
    have hD : va_D A [(md, .inr (5, [.int ((0 : Int32)), .int (nI n), .ref d1, .ref d2, .ref d3, .ref d4, .int (nI wt), .int isS, .int (nI nr), .int (nI ns), .ref d5, .ref d6, .ref d7, .ref d8, .ref d9, .ref da, .ref db, .int ((1 : Int32)), .int nx, .int (nI sp), .int (nI cl2), .int (nI np), .ref dc, .ref dd, .ref de, .int (nI ww), .ref df, .ref dg, .ref dh])), (d1, .inl (cI, 60, .inl fk)), (dd, .inl (cI, 8, .inl gr)), (de, .inl (cI, 24, .inl gs))] := hD
    refine lv_aload_n hx hb d_Mod_start_29 rfl (lv_at hl 0 rfl) ?_
    refine lv_iconst (v := 0) hx hb d_Mod_start_30 (by decide) ?_
    refine va_put (D := (dC, dI)) (ci := 5) (v := .int ((0 : Int32))) (ty := .int) (C := R_Mod) (T := T_Mod) (N := 29) hx hb ht i_Mod t_Mod t_Mod_ok n_Mod hown hK hP hD hS 0 rfl rfl 18 (by decide) (ht _ mw_624) (fun _ h9 => h9) rfl (by decide +kernel) rfl rfl (Nat.le_of_ble_eq_true rfl) d_Mod_start_31 (fun H locs hP hD hS => ?_)
    have hP : va_P (dC, dI) smC [(md, .inr (5, [.int ((0 : Int32)), .int (nI n), .ref d1, .ref d2, .ref d3, .ref d4, .int (nI wt), .int isS, .int (nI nr), .int (nI ns), .ref d5, .ref d6, .ref d7, .ref d8, .ref d9, .ref da, .ref db, .int ((1 : Int32)), .int ((0 : Int32)), .int (nI sp), .int (nI cl2), .int (nI np), .ref dc, .ref dd, .ref de, .int (nI ww), .ref df, .ref dg, .ref dh])), (d1, .inl (cI, 60, .inl fk)), (dd, .inl (cI, 8, .inl gr)), (de, .inl (cI, 24, .inl gs))] H := hP
    have hD : va_D A [(md, .inr (5, [.int ((0 : Int32)), .int (nI n), .ref d1, .ref d2, .ref d3, .ref d4, .int (nI wt), .int isS, .int (nI nr), .int (nI ns), .ref d5, .ref d6, .ref d7, .ref d8, .ref d9, .ref da, .ref db, .int ((1 : Int32)), .int ((0 : Int32)), .int (nI sp), .int (nI cl2), .int (nI np), .ref dc, .ref dd, .ref de, .int (nI ww), .ref df, .ref dg, .ref dh])), (d1, .inl (cI, 60, .inl fk)), (dd, .inl (cI, 8, .inl gr)), (de, .inl (cI, 24, .inl gs))] := hD
    refine lv_aload_n hx hb d_Mod_start_34 rfl (lv_at hl 0 rfl) ?_
    refine lv_iconst (v := 0) hx hb d_Mod_start_35 (by decide) ?_
    refine va_put (D := (dC, dI)) (ci := 5) (v := .int ((0 : Int32))) (ty := .int) (C := R_Mod) (T := T_Mod) (N := 29) hx hb ht i_Mod t_Mod t_Mod_ok n_Mod hown hK hP hD hS 0 rfl rfl 19 (by decide) (ht _ mw_625) (fun _ h9 => h9) rfl (by decide +kernel) rfl rfl (Nat.le_of_ble_eq_true rfl) d_Mod_start_36 (fun H locs hP hD hS => ?_)
    have hP : va_P (dC, dI) smC [(md, .inr (5, [.int ((0 : Int32)), .int (nI n), .ref d1, .ref d2, .ref d3, .ref d4, .int (nI wt), .int isS, .int (nI nr), .int (nI ns), .ref d5, .ref d6, .ref d7, .ref d8, .ref d9, .ref da, .ref db, .int ((1 : Int32)), .int ((0 : Int32)), .int ((0 : Int32)), .int (nI cl2), .int (nI np), .ref dc, .ref dd, .ref de, .int (nI ww), .ref df, .ref dg, .ref dh])), (d1, .inl (cI, 60, .inl fk)), (dd, .inl (cI, 8, .inl gr)), (de, .inl (cI, 24, .inl gs))] H := hP
    have hD : va_D A [(md, .inr (5, [.int ((0 : Int32)), .int (nI n), .ref d1, .ref d2, .ref d3, .ref d4, .int (nI wt), .int isS, .int (nI nr), .int (nI ns), .ref d5, .ref d6, .ref d7, .ref d8, .ref d9, .ref da, .ref db, .int ((1 : Int32)), .int ((0 : Int32)), .int ((0 : Int32)), .int (nI cl2), .int (nI np), .ref dc, .ref dd, .ref de, .int (nI ww), .ref df, .ref dg, .ref dh])), (d1, .inl (cI, 60, .inl fk)), (dd, .inl (cI, 8, .inl gr)), (de, .inl (cI, 24, .inl gs))] := hD
    refine lv_aload_n hx hb d_Mod_start_39 rfl (lv_at hl 0 rfl) ?_
    refine lv_iconst (v := 0) hx hb d_Mod_start_40 (by decide) ?_
    refine va_put (D := (dC, dI)) (ci := 5) (v := .int ((0 : Int32))) (ty := .int) (C := R_Mod) (T := T_Mod) (N := 29) hx hb ht i_Mod t_Mod t_Mod_ok n_Mod hown hK hP hD hS 0 rfl rfl 20 (by decide) (ht _ mw_626) (fun _ h9 => h9) rfl (by decide +kernel) rfl rfl (Nat.le_of_ble_eq_true rfl) d_Mod_start_41 (fun H locs hP hD hS => ?_)
    have hP : va_P (dC, dI) smC [(md, .inr (5, [.int ((0 : Int32)), .int (nI n), .ref d1, .ref d2, .ref d3, .ref d4, .int (nI wt), .int isS, .int (nI nr), .int (nI ns), .ref d5, .ref d6, .ref d7, .ref d8, .ref d9, .ref da, .ref db, .int ((1 : Int32)), .int ((0 : Int32)), .int ((0 : Int32)), .int ((0 : Int32)), .int (nI np), .ref dc, .ref dd, .ref de, .int (nI ww), .ref df, .ref dg, .ref dh])), (d1, .inl (cI, 60, .inl fk)), (dd, .inl (cI, 8, .inl gr)), (de, .inl (cI, 24, .inl gs))] H := hP
    have hD : va_D A [(md, .inr (5, [.int ((0 : Int32)), .int (nI n), .ref d1, .ref d2, .ref d3, .ref d4, .int (nI wt), .int isS, .int (nI nr), .int (nI ns), .ref d5, .ref d6, .ref d7, .ref d8, .ref d9, .ref da, .ref db, .int ((1 : Int32)), .int ((0 : Int32)), .int ((0 : Int32)), .int ((0 : Int32)), .int (nI np), .ref dc, .ref dd, .ref de, .int (nI ww), .ref df, .ref dg, .ref dh])), (d1, .inl (cI, 60, .inl fk)), (dd, .inl (cI, 8, .inl gr)), (de, .inl (cI, 24, .inl gs))] := hD
    refine lv_aload_n hx hb d_Mod_start_44 rfl (lv_at hl 0 rfl) ?_
    refine lv_iconst (v := 0) hx hb d_Mod_start_45 (by decide) ?_
    refine va_put (D := (dC, dI)) (ci := 5) (v := .int ((0 : Int32))) (ty := .int) (C := R_Mod) (T := T_Mod) (N := 29) hx hb ht i_Mod t_Mod t_Mod_ok n_Mod hown hK hP hD hS 0 rfl rfl 21 (by decide) (ht _ mw_627) (fun _ h9 => h9) rfl (by decide +kernel) rfl rfl (Nat.le_of_ble_eq_true rfl) d_Mod_start_46 (fun H locs hP hD hS => ?_)
    have hP : va_P (dC, dI) smC [(md, .inr (5, [.int ((0 : Int32)), .int (nI n), .ref d1, .ref d2, .ref d3, .ref d4, .int (nI wt), .int isS, .int (nI nr), .int (nI ns), .ref d5, .ref d6, .ref d7, .ref d8, .ref d9, .ref da, .ref db, .int ((1 : Int32)), .int ((0 : Int32)), .int ((0 : Int32)), .int ((0 : Int32)), .int ((0 : Int32)), .ref dc, .ref dd, .ref de, .int (nI ww), .ref df, .ref dg, .ref dh])), (d1, .inl (cI, 60, .inl fk)), (dd, .inl (cI, 8, .inl gr)), (de, .inl (cI, 24, .inl gs))] H := hP
    have hD : va_D A [(md, .inr (5, [.int ((0 : Int32)), .int (nI n), .ref d1, .ref d2, .ref d3, .ref d4, .int (nI wt), .int isS, .int (nI nr), .int (nI ns), .ref d5, .ref d6, .ref d7, .ref d8, .ref d9, .ref da, .ref db, .int ((1 : Int32)), .int ((0 : Int32)), .int ((0 : Int32)), .int ((0 : Int32)), .int ((0 : Int32)), .ref dc, .ref dd, .ref de, .int (nI ww), .ref df, .ref dg, .ref dh])), (d1, .inl (cI, 60, .inl fk)), (dd, .inl (cI, 8, .inl gr)), (de, .inl (cI, 24, .inl gs))] := hD
    refine lv_iconst (v := 0) hx hb d_Mod_start_49 (by decide) ?_
    refine lv_istore_n (lv' := [(1, .int ((0 : Int32))), (0, .ref md)]) hx hb d_Mod_start_50 rfl hl (by decide) rfl (fun ls hl => ?_)
    have loop_51 : ∀ (N_51 : Nat) (q : Nat) (k : Nat) (g1 : Nat → Int32), (q + k = 8) → (∀ j, j < k → g1 j = 0) → q < N_51 → ∀ (H : Heap) (locs : List Loc), va_P (dC, dI) smC [(md, .inr (5, [.int ((0 : Int32)), .int (nI n), .ref d1, .ref d2, .ref d3, .ref d4, .int (nI wt), .int isS, .int (nI nr), .int (nI ns), .ref d5, .ref d6, .ref d7, .ref d8, .ref d9, .ref da, .ref db, .int ((1 : Int32)), .int ((0 : Int32)), .int ((0 : Int32)), .int ((0 : Int32)), .int ((0 : Int32)), .ref dc, .ref dd, .ref de, .int (nI ww), .ref df, .ref dg, .ref dh])), (d1, .inl (cI, 60, .inl fk)), (dd, .inl (cI, 8, .inl g1)), (de, .inl (cI, 24, .inl gs))] H → va_D A [(md, .inr (5, [.int ((0 : Int32)), .int (nI n), .ref d1, .ref d2, .ref d3, .ref d4, .int (nI wt), .int isS, .int (nI nr), .int (nI ns), .ref d5, .ref d6, .ref d7, .ref d8, .ref d9, .ref da, .ref db, .int ((1 : Int32)), .int ((0 : Int32)), .int ((0 : Int32)), .int ((0 : Int32)), .int ((0 : Int32)), .ref dc, .ref dd, .ref de, .int (nI ww), .ref df, .ref dg, .ref dh])), (d1, .inl (cI, 60, .inl fk)), (dd, .inl (cI, 8, .inl g1)), (de, .inl (cI, 24, .inl gs))] → va_S A s.heap H locs → ∀ ls : Array Slot, lv_has ls 2 [(0, .ref md), (1, .int (nI k))] → W p l e (rmF 1 20) s m ([.ref md] : List Value).toArray below meth c H locs 0 0 (MQ below (va_Qv (fun w2 => (isS = 0 ∧ w2 = [(md, .inr (5, [.int ((1 : Int32)), .int (nI n), .ref d1, .ref d2, .ref d3, .ref d4, .int (nI wt), .int isS, .int (nI nr), .int (nI ns), .ref d5, .ref d6, .ref d7, .ref d8, .ref d9, .ref da, .ref db, .int sta, .int nx, .int (nI sp), .int (nI cl2), .int (nI np), .ref dc, .ref dd, .ref de, .int (nI ww), .ref df, .ref dg, .ref dh])), (d1, .inl (cI, 60, .inl fk)), (dd, .inl (cI, 8, .inl gr)), (de, .inl (cI, 24, .inl gs))]) ∨ ((¬ isS = 0) ∧ w2 = [(md, .inr (5, [.int ((0 : Int32)), .int (nI n), .ref d1, .ref d2, .ref d3, .ref d4, .int (nI wt), .int isS, .int (nI nr), .int (nI ns), .ref d5, .ref d6, .ref d7, .ref d8, .ref d9, .ref da, .ref db, .int (rst 1 n fk 0 0), .int ((0 : Int32)), .int ((0 : Int32)), .int ((0 : Int32)), .int ((0 : Int32)), .ref dc, .ref dd, .ref de, .int (nI ww), .ref df, .ref dg, .ref dh])), (d1, .inl (cI, 60, .inl fk)), (dd, .inl (cI, 8, .inl (fun _ => (0 : Int32)))), (de, .inl (cI, 24, .inl (fun _ => (0 : Int32))))])) (sm_B (dC, dI) smC [(cI, .int), (cZ, .boolean)] A) A) ([.ref md] : List Value).toArray s 0 0 A) (F0 m 51 ls []) := by
      intro N_51
      induction N_51 with
      | zero => intro q k g1 _ _ z; exact absurd z (Nat.not_lt_zero _)
      | succ N_51 ih_51 =>
        intro q k g1 hqk hz m_51 H locs hP hD hS ls hl
        refine lv_iload_n hx hb d_Mod_start_51 rfl (lv_at hl 1 rfl) ?_
        refine lv_bipush (v := 8) hx hb d_Mod_start_52 (by decide) ?_
        refine lv_icmp_ge (tgt := 70) hx hb d_Mod_start_54 (by decide) (fun c_54 => ?_) (fun c_54 => ?_)
        · skip
          have f_54 : 8 ≤ k := (nI_leI (a := 8) (b := k) (by first | omega | decide) (by first | omega | decide)).mp c_54
          have hP := sm_Pset (f := fun _ => 0) hP 2 rfl (fun j hj => hz j (by omega))
          have hD := hD.set (e := .inl (cI, 8, .inl (fun _ => 0))) (p := 2) rfl
          have hP : va_P (dC, dI) smC [(md, .inr (5, [.int ((0 : Int32)), .int (nI n), .ref d1, .ref d2, .ref d3, .ref d4, .int (nI wt), .int isS, .int (nI nr), .int (nI ns), .ref d5, .ref d6, .ref d7, .ref d8, .ref d9, .ref da, .ref db, .int ((1 : Int32)), .int ((0 : Int32)), .int ((0 : Int32)), .int ((0 : Int32)), .int ((0 : Int32)), .ref dc, .ref dd, .ref de, .int (nI ww), .ref df, .ref dg, .ref dh])), (d1, .inl (cI, 60, .inl fk)), (dd, .inl (cI, 8, .inl (fun _ => (0 : Int32)))), (de, .inl (cI, 24, .inl gs))] H := hP
          have hD : va_D A [(md, .inr (5, [.int ((0 : Int32)), .int (nI n), .ref d1, .ref d2, .ref d3, .ref d4, .int (nI wt), .int isS, .int (nI nr), .int (nI ns), .ref d5, .ref d6, .ref d7, .ref d8, .ref d9, .ref da, .ref db, .int ((1 : Int32)), .int ((0 : Int32)), .int ((0 : Int32)), .int ((0 : Int32)), .int ((0 : Int32)), .ref dc, .ref dd, .ref de, .int (nI ww), .ref df, .ref dg, .ref dh])), (d1, .inl (cI, 60, .inl fk)), (dd, .inl (cI, 8, .inl (fun _ => (0 : Int32)))), (de, .inl (cI, 24, .inl gs))] := hD
          refine lv_iconst (v := 0) hx hb d_Mod_start_70 (by decide) ?_
          refine lv_istore_n (lv' := [(1, .int ((0 : Int32))), (0, .ref md)]) hx hb d_Mod_start_71 rfl hl (by decide) rfl (fun ls hl => ?_)
          have loop_72 : ∀ (N_72 : Nat) (q2 : Nat) (k2 : Nat) (g2 : Nat → Int32), (q2 + k2 = 24) → (∀ j, j < k2 → g2 j = 0) → q2 < N_72 → ∀ (H : Heap) (locs : List Loc), va_P (dC, dI) smC [(md, .inr (5, [.int ((0 : Int32)), .int (nI n), .ref d1, .ref d2, .ref d3, .ref d4, .int (nI wt), .int isS, .int (nI nr), .int (nI ns), .ref d5, .ref d6, .ref d7, .ref d8, .ref d9, .ref da, .ref db, .int ((1 : Int32)), .int ((0 : Int32)), .int ((0 : Int32)), .int ((0 : Int32)), .int ((0 : Int32)), .ref dc, .ref dd, .ref de, .int (nI ww), .ref df, .ref dg, .ref dh])), (d1, .inl (cI, 60, .inl fk)), (dd, .inl (cI, 8, .inl (fun _ => (0 : Int32)))), (de, .inl (cI, 24, .inl g2))] H → va_D A [(md, .inr (5, [.int ((0 : Int32)), .int (nI n), .ref d1, .ref d2, .ref d3, .ref d4, .int (nI wt), .int isS, .int (nI nr), .int (nI ns), .ref d5, .ref d6, .ref d7, .ref d8, .ref d9, .ref da, .ref db, .int ((1 : Int32)), .int ((0 : Int32)), .int ((0 : Int32)), .int ((0 : Int32)), .int ((0 : Int32)), .ref dc, .ref dd, .ref de, .int (nI ww), .ref df, .ref dg, .ref dh])), (d1, .inl (cI, 60, .inl fk)), (dd, .inl (cI, 8, .inl (fun _ => (0 : Int32)))), (de, .inl (cI, 24, .inl g2))] → va_S A s.heap H locs → ∀ ls : Array Slot, lv_has ls 2 [(0, .ref md), (1, .int (nI k2))] → W p l e (rmF 1 20) s m ([.ref md] : List Value).toArray below meth c H locs 0 0 (MQ below (va_Qv (fun w2 => (isS = 0 ∧ w2 = [(md, .inr (5, [.int ((1 : Int32)), .int (nI n), .ref d1, .ref d2, .ref d3, .ref d4, .int (nI wt), .int isS, .int (nI nr), .int (nI ns), .ref d5, .ref d6, .ref d7, .ref d8, .ref d9, .ref da, .ref db, .int sta, .int nx, .int (nI sp), .int (nI cl2), .int (nI np), .ref dc, .ref dd, .ref de, .int (nI ww), .ref df, .ref dg, .ref dh])), (d1, .inl (cI, 60, .inl fk)), (dd, .inl (cI, 8, .inl gr)), (de, .inl (cI, 24, .inl gs))]) ∨ ((¬ isS = 0) ∧ w2 = [(md, .inr (5, [.int ((0 : Int32)), .int (nI n), .ref d1, .ref d2, .ref d3, .ref d4, .int (nI wt), .int isS, .int (nI nr), .int (nI ns), .ref d5, .ref d6, .ref d7, .ref d8, .ref d9, .ref da, .ref db, .int (rst 1 n fk 0 0), .int ((0 : Int32)), .int ((0 : Int32)), .int ((0 : Int32)), .int ((0 : Int32)), .ref dc, .ref dd, .ref de, .int (nI ww), .ref df, .ref dg, .ref dh])), (d1, .inl (cI, 60, .inl fk)), (dd, .inl (cI, 8, .inl (fun _ => (0 : Int32)))), (de, .inl (cI, 24, .inl (fun _ => (0 : Int32))))])) (sm_B (dC, dI) smC [(cI, .int), (cZ, .boolean)] A) A) ([.ref md] : List Value).toArray s 0 0 A) (F0 m 72 ls []) := by
            intro N_72
            induction N_72 with
            | zero => intro q2 k2 g2 _ _ z; exact absurd z (Nat.not_lt_zero _)
            | succ N_72 ih_72 =>
              intro q2 k2 g2 hqk hz m_72 H locs hP hD hS ls hl
              refine lv_iload_n hx hb d_Mod_start_72 rfl (lv_at hl 1 rfl) ?_
              refine lv_bipush (v := 24) hx hb d_Mod_start_73 (by decide) ?_
              refine lv_icmp_ge (tgt := 91) hx hb d_Mod_start_75 (by decide) (fun c_75 => ?_) (fun c_75 => ?_)
              · skip
                have f_75 : 24 ≤ k2 := (nI_leI (a := 24) (b := k2) (by first | omega | decide) (by first | omega | decide)).mp c_75
                have hP := sm_Pset (f := fun _ => 0) hP 3 rfl (fun j hj => hz j (by omega))
                have hD := hD.set (e := .inl (cI, 24, .inl (fun _ => 0))) (p := 3) rfl
                have hP : va_P (dC, dI) smC [(md, .inr (5, [.int ((0 : Int32)), .int (nI n), .ref d1, .ref d2, .ref d3, .ref d4, .int (nI wt), .int isS, .int (nI nr), .int (nI ns), .ref d5, .ref d6, .ref d7, .ref d8, .ref d9, .ref da, .ref db, .int ((1 : Int32)), .int ((0 : Int32)), .int ((0 : Int32)), .int ((0 : Int32)), .int ((0 : Int32)), .ref dc, .ref dd, .ref de, .int (nI ww), .ref df, .ref dg, .ref dh])), (d1, .inl (cI, 60, .inl fk)), (dd, .inl (cI, 8, .inl (fun _ => (0 : Int32)))), (de, .inl (cI, 24, .inl (fun _ => (0 : Int32))))] H := hP
                have hD : va_D A [(md, .inr (5, [.int ((0 : Int32)), .int (nI n), .ref d1, .ref d2, .ref d3, .ref d4, .int (nI wt), .int isS, .int (nI nr), .int (nI ns), .ref d5, .ref d6, .ref d7, .ref d8, .ref d9, .ref da, .ref db, .int ((1 : Int32)), .int ((0 : Int32)), .int ((0 : Int32)), .int ((0 : Int32)), .int ((0 : Int32)), .ref dc, .ref dd, .ref de, .int (nI ww), .ref df, .ref dg, .ref dh])), (d1, .inl (cI, 60, .inl fk)), (dd, .inl (cI, 8, .inl (fun _ => (0 : Int32)))), (de, .inl (cI, 24, .inl (fun _ => (0 : Int32))))] := hD
                refine lv_aload_n hx hb d_Mod_start_91 rfl (lv_at hl 0 rfl) ?_
                refine sm_goi (wc := [(md, .inr (5, [.int ((0 : Int32)), .int (nI n), .ref d1, .ref d2, .ref d3, .ref d4, .int (nI wt), .int isS, .int (nI nr), .int (nI ns), .ref d5, .ref d6, .ref d7, .ref d8, .ref d9, .ref da, .ref db, .int ((1 : Int32)), .int ((0 : Int32)), .int ((0 : Int32)), .int ((0 : Int32)), .int ((0 : Int32)), .ref dc, .ref dd, .ref de, .int (nI ww), .ref df, .ref dg, .ref dh])), (d1, .inl (cI, 60, .inl fk))]) (wr := [(dd, .inl (cI, 8, .inl (fun _ => (0 : Int32)))), (de, .inl (cI, 24, .inl (fun _ => (0 : Int32))))]) (va_runV (As := []) (rest := []) ⟨hx, hb, hml, hown, ht⟩ ((c_Mod_isEnd (l := l) (dC := dC) (dI := dI) (cI := cI) (cZ := cZ) (md := md) (d1 := d1) (d2 := d2) (d3 := d3) (d4 := d4) (d5 := d5) (d6 := d6) (d7 := d7) (d8 := d8) (d9 := d9) (da := da) (db := db) (dc := dc) (dd := dd) (de := de) (df := df) (dg := dg) (dh := dh) (n := n) (wt := wt) (nr := nr) (ns := ns) (sp := 0) (cl2 := 0) (np := 0) (ww := ww) (th := (0 : Int32)) (isS := isS) (sta := (1 : Int32)) (fk := fk) (k := 0) hn (by decide)).at H.size) (sm_cV 0 ht mw_779 mw_6 mw_776 mw_778 mp_32 rfl rfl (by decide +kernel) ⟨Nat.le_of_ble_eq_true rfl, Nat.le_of_ble_eq_true rfl⟩) (sm_preV (ci := 5) hN hK hP hD [0, 1] rfl rfl (by decide) 0 rfl rfl) rfl rfl hl.1 rfl (lv_room (Nat.le_of_ble_eq_true rfl)) d_Mod_start_92 ⟨Nat.zero_le _, Nat.zero_le _⟩) hP hD hS hA [0, 1] [2, 3] rfl rfl (by decide) (by decide) (fun r_92 w_92 H locs q_92 hP hD hS => ?_)
                obtain ⟨rfl, rfl⟩ := q_92
                have hP : va_P (dC, dI) smC [(dd, .inl (cI, 8, .inl (fun _ => (0 : Int32)))), (de, .inl (cI, 24, .inl (fun _ => (0 : Int32)))), (md, .inr (5, [.int ((0 : Int32)), .int (nI n), .ref d1, .ref d2, .ref d3, .ref d4, .int (nI wt), .int isS, .int (nI nr), .int (nI ns), .ref d5, .ref d6, .ref d7, .ref d8, .ref d9, .ref da, .ref db, .int ((1 : Int32)), .int (nI 0), .int (nI 0), .int (nI 0), .int (nI 0), .ref dc, .ref dd, .ref de, .int (nI ww), .ref df, .ref dg, .ref dh])), (d1, .inl (cI, 60, .inl fk))] H := hP
                have hD : va_D A [(dd, .inl (cI, 8, .inl (fun _ => (0 : Int32)))), (de, .inl (cI, 24, .inl (fun _ => (0 : Int32)))), (md, .inr (5, [.int ((0 : Int32)), .int (nI n), .ref d1, .ref d2, .ref d3, .ref d4, .int (nI wt), .int isS, .int (nI nr), .int (nI ns), .ref d5, .ref d6, .ref d7, .ref d8, .ref d9, .ref da, .ref db, .int ((1 : Int32)), .int (nI 0), .int (nI 0), .int (nI 0), .int (nI 0), .ref dc, .ref dd, .ref de, .int (nI ww), .ref df, .ref dg, .ref dh])), (d1, .inl (cI, 60, .inl fk))] := hD
                refine lv_if_eq (tgt := 103) hx hb d_Mod_start_95 (by decide) (fun c_95 => ?_) (fun c_95 => ?_)
                · skip
                  have e_95 : (eK n fk 0) = false := b2i_eq0 c_95
                  refine sm_rv (ws := [(md, .inr (5, [.int ((0 : Int32)), .int (nI n), .ref d1, .ref d2, .ref d3, .ref d4, .int (nI wt), .int isS, .int (nI nr), .int (nI ns), .ref d5, .ref d6, .ref d7, .ref d8, .ref d9, .ref da, .ref db, .int ((1 : Int32)), .int (nI 0), .int (nI 0), .int (nI 0), .int (nI 0), .ref dc, .ref dd, .ref de, .int (nI ww), .ref df, .ref dg, .ref dh])), (d1, .inl (cI, 60, .inl fk)), (dd, .inl (cI, 8, .inl (fun _ => (0 : Int32)))), (de, .inl (cI, 24, .inl (fun _ => (0 : Int32))))]) hx hb hr hlocks hK (hP.sub [2, 3, 0, 1] rfl) (hD.sub [2, 3, 0, 1] (by decide) rfl) hS ?_ d_Mod_start_103
                  exact Or.inr ⟨c_5, by rw [rst_f e_95]; rfl⟩
                · skip
                  have e_95 : (eK n fk 0) = true := b2i_ne0 c_95
                  refine lv_aload_n hx hb d_Mod_start_98 rfl (lv_at hl 0 rfl) ?_
                  refine lv_iconst (v := 2) hx hb d_Mod_start_99 (by decide) ?_
                  refine va_put (D := (dC, dI)) (ci := 5) (v := .int ((2 : Int32))) (ty := .int) (C := R_Mod) (T := T_Mod) (N := 29) hx hb ht i_Mod t_Mod t_Mod_ok n_Mod hown hK hP hD hS 2 rfl rfl 17 (by decide) (ht _ mw_623) (fun _ h9 => h9) rfl (by decide +kernel) rfl rfl (Nat.le_of_ble_eq_true rfl) d_Mod_start_100 (fun H locs hP hD hS => ?_)
                  have hP : va_P (dC, dI) smC [(dd, .inl (cI, 8, .inl (fun _ => (0 : Int32)))), (de, .inl (cI, 24, .inl (fun _ => (0 : Int32)))), (md, .inr (5, [.int ((0 : Int32)), .int (nI n), .ref d1, .ref d2, .ref d3, .ref d4, .int (nI wt), .int isS, .int (nI nr), .int (nI ns), .ref d5, .ref d6, .ref d7, .ref d8, .ref d9, .ref da, .ref db, .int ((2 : Int32)), .int (nI 0), .int (nI 0), .int (nI 0), .int (nI 0), .ref dc, .ref dd, .ref de, .int (nI ww), .ref df, .ref dg, .ref dh])), (d1, .inl (cI, 60, .inl fk))] H := hP
                  have hD : va_D A [(dd, .inl (cI, 8, .inl (fun _ => (0 : Int32)))), (de, .inl (cI, 24, .inl (fun _ => (0 : Int32)))), (md, .inr (5, [.int ((0 : Int32)), .int (nI n), .ref d1, .ref d2, .ref d3, .ref d4, .int (nI wt), .int isS, .int (nI nr), .int (nI ns), .ref d5, .ref d6, .ref d7, .ref d8, .ref d9, .ref da, .ref db, .int ((2 : Int32)), .int (nI 0), .int (nI 0), .int (nI 0), .int (nI 0), .ref dc, .ref dd, .ref de, .int (nI ww), .ref df, .ref dg, .ref dh])), (d1, .inl (cI, 60, .inl fk))] := hD
                  refine sm_rv (ws := [(md, .inr (5, [.int ((0 : Int32)), .int (nI n), .ref d1, .ref d2, .ref d3, .ref d4, .int (nI wt), .int isS, .int (nI nr), .int (nI ns), .ref d5, .ref d6, .ref d7, .ref d8, .ref d9, .ref da, .ref db, .int ((2 : Int32)), .int (nI 0), .int (nI 0), .int (nI 0), .int (nI 0), .ref dc, .ref dd, .ref de, .int (nI ww), .ref df, .ref dg, .ref dh])), (d1, .inl (cI, 60, .inl fk)), (dd, .inl (cI, 8, .inl (fun _ => (0 : Int32)))), (de, .inl (cI, 24, .inl (fun _ => (0 : Int32))))]) hx hb hr hlocks hK (hP.sub [2, 3, 0, 1] rfl) (hD.sub [2, 3, 0, 1] (by decide) rfl) hS ?_ d_Mod_start_103
                  exact Or.inr ⟨c_5, by rw [rst_t e_95]; rfl⟩
              · skip
                have f_75 : ¬ 24 ≤ k2 := fun z => c_75 ((nI_leI (a := 24) (b := k2) (by first | omega | decide) (by first | omega | decide)).mpr z)
                obtain ⟨q3, rfl⟩ : ∃ z, q2 = z + 1 := ⟨q2 - 1, by omega⟩
                refine lv_aload_n hx hb d_Mod_start_78 rfl (lv_at hl 0 rfl) ?_
                refine va_get (D := (dC, dI)) (ci := 5) (v := .ref de) (C := R_Mod) (T := T_Mod) (N := 29) hx hb ht i_Mod hown hK hP 0 rfl rfl 24 (by decide) (ht _ mw_630) (fun _ h9 => h9) rfl d_Mod_start_79 ?_
                refine lv_iload_n hx hb d_Mod_start_82 rfl (lv_at hl 1 rfl) ?_
                refine lv_iconst (v := 0) hx hb d_Mod_start_83 (by decide) ?_
                refine sm_iast (j := k2) hx hb hK hP hD hS 3 0 rfl rfl (vp_in_nI (by first | omega | assumption) (by first | decide | omega)) (nI_clamp (by first | omega | (have := sm_lt31; omega))) d_Mod_start_84 (fun H locs hP hD hS => ?_)
                have hP : va_P (dC, dI) smC [(md, .inr (5, [.int ((0 : Int32)), .int (nI n), .ref d1, .ref d2, .ref d3, .ref d4, .int (nI wt), .int isS, .int (nI nr), .int (nI ns), .ref d5, .ref d6, .ref d7, .ref d8, .ref d9, .ref da, .ref db, .int ((1 : Int32)), .int ((0 : Int32)), .int ((0 : Int32)), .int ((0 : Int32)), .int ((0 : Int32)), .ref dc, .ref dd, .ref de, .int (nI ww), .ref df, .ref dg, .ref dh])), (d1, .inl (cI, 60, .inl fk)), (dd, .inl (cI, 8, .inl (fun _ => (0 : Int32)))), (de, .inl (cI, 24, .inl (upd g2 k2 ((0 : Int32)))))] H := hP
                have hD : va_D A [(md, .inr (5, [.int ((0 : Int32)), .int (nI n), .ref d1, .ref d2, .ref d3, .ref d4, .int (nI wt), .int isS, .int (nI nr), .int (nI ns), .ref d5, .ref d6, .ref d7, .ref d8, .ref d9, .ref da, .ref db, .int ((1 : Int32)), .int ((0 : Int32)), .int ((0 : Int32)), .int ((0 : Int32)), .int ((0 : Int32)), .ref dc, .ref dd, .ref de, .int (nI ww), .ref df, .ref dg, .ref dh])), (d1, .inl (cI, 60, .inl fk)), (dd, .inl (cI, 8, .inl (fun _ => (0 : Int32)))), (de, .inl (cI, 24, .inl (upd g2 k2 ((0 : Int32)))))] := hD
                refine lv_iinc (v := nI (k2 + 1)) (lv' := [(1, .int (nI (k2 + 1))), (0, .ref md)]) hx hb d_Mod_start_85 hl (k := 1) rfl (nI_add k2 1) (by decide) rfl (fun ls hl => ?_)
                refine lv_goto (tgt := 72) hx hb d_Mod_start_88 (by decide) ?_
                exact ih_72 q3 (k2 + 1) (upd g2 k2 ((0 : Int32))) (by omega) (sm_fillstep hz) (by omega) _ _ (hP.sub [0, 1, 2, 3] rfl) (hD.sub [0, 1, 2, 3] (by decide) rfl) hS _ (lv_sub hl [1, 0] rfl)
          exact loop_72 25 24 0 gs rfl (fun t ht => absurd ht (Nat.not_lt_zero _)) (by decide) _ _ (hP.sub [0, 1, 2, 3] rfl) (hD.sub [0, 1, 2, 3] (by decide) rfl) hS _ (lv_sub hl [1, 0] rfl)
        · skip
          have f_54 : ¬ 8 ≤ k := fun z => c_54 ((nI_leI (a := 8) (b := k) (by first | omega | decide) (by first | omega | decide)).mpr z)
          obtain ⟨q1, rfl⟩ : ∃ z, q = z + 1 := ⟨q - 1, by omega⟩
          refine lv_aload_n hx hb d_Mod_start_57 rfl (lv_at hl 0 rfl) ?_
          refine va_get (D := (dC, dI)) (ci := 5) (v := .ref dd) (C := R_Mod) (T := T_Mod) (N := 29) hx hb ht i_Mod hown hK hP 0 rfl rfl 23 (by decide) (ht _ mw_629) (fun _ h9 => h9) rfl d_Mod_start_58 ?_
          refine lv_iload_n hx hb d_Mod_start_61 rfl (lv_at hl 1 rfl) ?_
          refine lv_iconst (v := 0) hx hb d_Mod_start_62 (by decide) ?_
          refine sm_iast (j := k) hx hb hK hP hD hS 2 0 rfl rfl (vp_in_nI (by first | omega | assumption) (by first | decide | omega)) (nI_clamp (by first | omega | (have := sm_lt31; omega))) d_Mod_start_63 (fun H locs hP hD hS => ?_)
          have hP : va_P (dC, dI) smC [(md, .inr (5, [.int ((0 : Int32)), .int (nI n), .ref d1, .ref d2, .ref d3, .ref d4, .int (nI wt), .int isS, .int (nI nr), .int (nI ns), .ref d5, .ref d6, .ref d7, .ref d8, .ref d9, .ref da, .ref db, .int ((1 : Int32)), .int ((0 : Int32)), .int ((0 : Int32)), .int ((0 : Int32)), .int ((0 : Int32)), .ref dc, .ref dd, .ref de, .int (nI ww), .ref df, .ref dg, .ref dh])), (d1, .inl (cI, 60, .inl fk)), (dd, .inl (cI, 8, .inl (upd g1 k ((0 : Int32))))), (de, .inl (cI, 24, .inl gs))] H := hP
          have hD : va_D A [(md, .inr (5, [.int ((0 : Int32)), .int (nI n), .ref d1, .ref d2, .ref d3, .ref d4, .int (nI wt), .int isS, .int (nI nr), .int (nI ns), .ref d5, .ref d6, .ref d7, .ref d8, .ref d9, .ref da, .ref db, .int ((1 : Int32)), .int ((0 : Int32)), .int ((0 : Int32)), .int ((0 : Int32)), .int ((0 : Int32)), .ref dc, .ref dd, .ref de, .int (nI ww), .ref df, .ref dg, .ref dh])), (d1, .inl (cI, 60, .inl fk)), (dd, .inl (cI, 8, .inl (upd g1 k ((0 : Int32))))), (de, .inl (cI, 24, .inl gs))] := hD
          refine lv_iinc (v := nI (k + 1)) (lv' := [(1, .int (nI (k + 1))), (0, .ref md)]) hx hb d_Mod_start_64 hl (k := 1) rfl (nI_add k 1) (by decide) rfl (fun ls hl => ?_)
          refine lv_goto (tgt := 51) hx hb d_Mod_start_67 (by decide) ?_
          exact ih_51 q1 (k + 1) (upd g1 k ((0 : Int32))) (by omega) (sm_fillstep hz) (by omega) _ _ (hP.sub [0, 1, 2, 3] rfl) (hD.sub [0, 1, 2, 3] (by decide) rfl) hS _ (lv_sub hl [1, 0] rfl)
    exact loop_51 9 8 0 gr rfl (fun t ht => absurd ht (Nat.not_lt_zero _)) (by decide) _ _ (hP.sub [0, 1, 2, 3] rfl) (hD.sub [0, 1, 2, 3] (by decide) rfl) hS _ (lv_sub hl [1, 0] rfl)
abbrev y_Mod_register : MethodName := ⟨"ScanMillModel", "register", "(I)I"⟩
theorem d_Mod_register_0 : decode prog_7_method_29_code 0 = .ok (.aload_n 0, 1) := by decide +kernel
theorem d_Mod_register_1 : decode prog_7_method_29_code 1 = .ok (.aload_n 0, 1) := by decide +kernel
theorem d_Mod_register_2 : decode prog_7_method_29_code 2 = .ok (.getfield 77, 3) := by decide +kernel
theorem d_Mod_register_5 : decode prog_7_method_29_code 5 = .ok (.ifCond .eq 21, 3) := by decide +kernel
theorem d_Mod_register_26 : decode prog_7_method_29_code 26 = .ok (.iconst 1, 1) := by decide +kernel
theorem d_Mod_register_27 : decode prog_7_method_29_code 27 = .ok (.putfield 66, 3) := by decide +kernel
theorem d_Mod_register_30 : decode prog_7_method_29_code 30 = .ok (.aload_n 0, 1) := by decide +kernel
theorem d_Mod_register_31 : decode prog_7_method_29_code 31 = .ok (.getfield 66, 3) := by decide +kernel
theorem d_Mod_register_34 : decode prog_7_method_29_code 34 = .ok (.ifCond .ne 12, 3) := by decide +kernel
theorem d_Mod_register_46 : decode prog_7_method_29_code 46 = .ok (.iconst 0, 1) := by decide +kernel
theorem d_Mod_register_47 : decode prog_7_method_29_code 47 = .ok (.ireturn, 1) := by decide +kernel
theorem d_Mod_register_8 : decode prog_7_method_29_code 8 = .ok (.iload_n 1, 1) := by decide +kernel
theorem d_Mod_register_9 : decode prog_7_method_29_code 9 = .ok (.iconst 0, 1) := by decide +kernel
theorem d_Mod_register_10 : decode prog_7_method_29_code 10 = .ok (.aload_n 0, 1) := by decide +kernel
theorem d_Mod_register_11 : decode prog_7_method_29_code 11 = .ok (.getfield 111, 3) := by decide +kernel
theorem d_Mod_register_14 : decode prog_7_method_29_code 14 = .ok (.iconst 1, 1) := by decide +kernel
theorem d_Mod_register_15 : decode prog_7_method_29_code 15 = .ok (.isub, 1) := by decide +kernel
theorem d_Mod_register_16 : decode prog_7_method_29_code 16 = .ok (.invokestatic 69, 3) := by decide +kernel
theorem d_Mod_register_19 : decode prog_7_method_29_code 19 = .ok (.ifCond .eq 7, 3) := by decide +kernel
theorem d_Mod_register_22 : decode prog_7_method_29_code 22 = .ok (.iconst 0, 1) := by decide +kernel
theorem d_Mod_register_23 : decode prog_7_method_29_code 23 = .ok (.goto 4, 3) := by decide +kernel
theorem d_Mod_register_37 : decode prog_7_method_29_code 37 = .ok (.aload_n 0, 1) := by decide +kernel
theorem d_Mod_register_38 : decode prog_7_method_29_code 38 = .ok (.getfield 51, 3) := by decide +kernel
theorem d_Mod_register_41 : decode prog_7_method_29_code 41 = .ok (.iload_n 1, 1) := by decide +kernel
theorem d_Mod_register_42 : decode prog_7_method_29_code 42 = .ok (.iaload, 1) := by decide +kernel
theorem d_Mod_register_43 : decode prog_7_method_29_code 43 = .ok (.goto 4, 3) := by decide +kernel
set_option maxRecDepth 100000 in
set_option maxHeartbeats 4000000 in
theorem c_Mod_register {l : Launch} {dC : Nat → ClassId} {dI : Nat → Nat → Nat} {cI cZ : ClassId} {md d1 d2 d3 d4 d5 d6 d7 d8 d9 da db dc dd de df dg dh n wt nr ns sp cl2 np ww : Nat} {th isS sta nx : Int32} {gr : Nat → Int32} {i : Int32} (hnr8 : nr ≤ 8) : sm_I l y_Mod_register prog_7_method_29_code 2 (some .int) (rmF 1 22) (dC, dI) smC [(cI, .int), (cZ, .boolean)] [.ref md, .int i] [(md, .inr (5, [.int th, .int (nI n), .ref d1, .ref d2, .ref d3, .ref d4, .int (nI wt), .int isS, .int (nI nr), .int (nI ns), .ref d5, .ref d6, .ref d7, .ref d8, .ref d9, .ref da, .ref db, .int sta, .int nx, .int (nI sp), .int (nI cl2), .int (nI np), .ref dc, .ref dd, .ref de, .int (nI ww), .ref df, .ref dg, .ref dh])), (dd, .inl (cI, 8, .inl gr))] (fun q w2 => ((¬ sta = 0 ∧ inB i nr = true) ∧ q = (gr i.toNatClampNeg) ∧ w2 = [(md, .inr (5, [.int ((0 : Int32)), .int (nI n), .ref d1, .ref d2, .ref d3, .ref d4, .int (nI wt), .int isS, .int (nI nr), .int (nI ns), .ref d5, .ref d6, .ref d7, .ref d8, .ref d9, .ref da, .ref db, .int sta, .int nx, .int (nI sp), .int (nI cl2), .int (nI np), .ref dc, .ref dd, .ref de, .int (nI ww), .ref df, .ref dg, .ref dh])), (dd, .inl (cI, 8, .inl gr))]) ∨ (¬ (¬ sta = 0 ∧ inB i nr = true) ∧ q = ((0 : Int32)) ∧ w2 = [(md, .inr (5, [.int ((1 : Int32)), .int (nI n), .ref d1, .ref d2, .ref d3, .ref d4, .int (nI wt), .int isS, .int (nI nr), .int (nI ns), .ref d5, .ref d6, .ref d7, .ref d8, .ref d9, .ref da, .ref db, .int sta, .int nx, .int (nI sp), .int (nI cl2), .int (nI np), .ref dc, .ref dd, .ref de, .int (nI ww), .ref df, .ref dg, .ref dh])), (dd, .inl (cI, 8, .inl gr))])) := by
  refine sm_I.mk (by decide) (Nat.le_of_ble_eq_true rfl) ?_
  intro p e s m below meth c A H locs ls hx hb hr ht hown hlocks hml hnm hP hK hD hA hS hN hl
  have hl : lv_has ls 2 [(0, .ref md), (1, .int i)] := hl
  refine lv_aload_n hx hb d_Mod_register_0 rfl (lv_at hl 0 rfl) ?_
  refine lv_aload_n hx hb d_Mod_register_1 rfl (lv_at hl 0 rfl) ?_
  refine va_get (D := (dC, dI)) (ci := 5) (v := .int sta) (C := R_Mod) (T := T_Mod) (N := 29) hx hb ht i_Mod hown hK hP 0 rfl rfl 17 (by decide) (ht _ mw_623) (fun _ h9 => h9) rfl d_Mod_register_2 ?_
  refine lv_if_eq (tgt := 26) hx hb d_Mod_register_5 (by decide) (fun c_5 => ?_) (fun c_5 => ?_)
  · skip
    refine lv_iconst (v := 1) hx hb d_Mod_register_26 (by decide) ?_
    refine va_put (D := (dC, dI)) (ci := 5) (v := .int ((1 : Int32))) (ty := .int) (C := R_Mod) (T := T_Mod) (N := 29) hx hb ht i_Mod t_Mod t_Mod_ok n_Mod hown hK hP hD hS 0 rfl rfl 0 (by decide) (ht _ mw_606) (fun _ h9 => h9) rfl (by decide +kernel) rfl rfl (Nat.le_of_ble_eq_true rfl) d_Mod_register_27 (fun H locs hP hD hS => ?_)
    have hP : va_P (dC, dI) smC [(md, .inr (5, [.int ((1 : Int32)), .int (nI n), .ref d1, .ref d2, .ref d3, .ref d4, .int (nI wt), .int isS, .int (nI nr), .int (nI ns), .ref d5, .ref d6, .ref d7, .ref d8, .ref d9, .ref da, .ref db, .int sta, .int nx, .int (nI sp), .int (nI cl2), .int (nI np), .ref dc, .ref dd, .ref de, .int (nI ww), .ref df, .ref dg, .ref dh])), (dd, .inl (cI, 8, .inl gr))] H := hP
    have hD : va_D A [(md, .inr (5, [.int ((1 : Int32)), .int (nI n), .ref d1, .ref d2, .ref d3, .ref d4, .int (nI wt), .int isS, .int (nI nr), .int (nI ns), .ref d5, .ref d6, .ref d7, .ref d8, .ref d9, .ref da, .ref db, .int sta, .int nx, .int (nI sp), .int (nI cl2), .int (nI np), .ref dc, .ref dd, .ref de, .int (nI ww), .ref df, .ref dg, .ref dh])), (dd, .inl (cI, 8, .inl gr))] := hD
    refine lv_aload_n hx hb d_Mod_register_30 rfl (lv_at hl 0 rfl) ?_
    refine va_get (D := (dC, dI)) (ci := 5) (v := .int ((1 : Int32))) (C := R_Mod) (T := T_Mod) (N := 29) hx hb ht i_Mod hown hK hP 0 rfl rfl 0 (by decide) (ht _ mw_606) (fun _ h9 => h9) rfl d_Mod_register_31 ?_
    refine lv_if_ne (tgt := 46) hx hb d_Mod_register_34 (by decide) (fun _ => ?_) (fun z => absurd z (by decide))
    refine lv_iconst (v := 0) hx hb d_Mod_register_46 (by decide) ?_
    refine sm_ri (v := (0 : Int32)) (ws := [(md, .inr (5, [.int ((1 : Int32)), .int (nI n), .ref d1, .ref d2, .ref d3, .ref d4, .int (nI wt), .int isS, .int (nI nr), .int (nI ns), .ref d5, .ref d6, .ref d7, .ref d8, .ref d9, .ref da, .ref db, .int sta, .int nx, .int (nI sp), .int (nI cl2), .int (nI np), .ref dc, .ref dd, .ref de, .int (nI ww), .ref df, .ref dg, .ref dh])), (dd, .inl (cI, 8, .inl gr))]) hx hb hr hlocks hK (hP.sub [0, 1] rfl) (hD.sub [0, 1] (by decide) rfl) hS ?_ d_Mod_register_47
    exact Or.inr ⟨fun z => z.1 c_5, rfl, rfl⟩
  · skip
    refine lv_iload_n hx hb d_Mod_register_8 rfl (lv_at hl 1 rfl) ?_
    refine lv_iconst (v := 0) hx hb d_Mod_register_9 (by decide) ?_
    refine lv_aload_n hx hb d_Mod_register_10 rfl (lv_at hl 0 rfl) ?_
    refine va_get (D := (dC, dI)) (ci := 5) (v := .int (nI nr)) (C := R_Mod) (T := T_Mod) (N := 29) hx hb ht i_Mod hown hK hP 0 rfl rfl 8 (by decide) (ht _ mw_614) (fun _ h9 => h9) rfl d_Mod_register_11 ?_
    refine lv_iconst (v := 1) hx hb d_Mod_register_14 (by decide) ?_
    refine lv_isub hx hb d_Mod_register_15 ?_
    refine sm_goi (wc := []) (wr := [(md, .inr (5, [.int th, .int (nI n), .ref d1, .ref d2, .ref d3, .ref d4, .int (nI wt), .int isS, .int (nI nr), .int (nI ns), .ref d5, .ref d6, .ref d7, .ref d8, .ref d9, .ref da, .ref db, .int sta, .int nx, .int (nI sp), .int (nI cl2), .int (nI np), .ref dc, .ref dd, .ref de, .int (nI ww), .ref df, .ref dg, .ref dh])), (dd, .inl (cI, 8, .inl gr))]) (va_runS (As := [.int i, .int ((0 : Int32)), .int (nI nr - 1)]) (rest := [.ref md]) ⟨hx, hb, hml, hown, ht⟩ ((c_Mod_within (l := l) (dC := dC) (dI := dI) (cI := cI) (cZ := cZ) (x := i) (lo := (0 : Int32)) (hi := nI nr - 1) ).at H.size) (sm_cS 3 ht mw_704 mw_6 mw_702 mw_703 rfl rfl (by decide +kernel) ⟨Nat.le_of_ble_eq_true rfl, Nat.le_of_ble_eq_true rfl⟩) (sm_preS hN hK hP hD [] rfl rfl (by decide)) rfl rfl hl.1 rfl (lv_room (Nat.le_of_ble_eq_true rfl)) d_Mod_register_16 ⟨Nat.zero_le _, Nat.zero_le _⟩) hP hD hS hA [] [0, 1] rfl rfl (by decide) (by decide) (fun r_16 w_16 H locs q_16 hP hD hS => ?_)
    obtain ⟨rfl, rfl⟩ := q_16
    have hP : va_P (dC, dI) smC [(md, .inr (5, [.int th, .int (nI n), .ref d1, .ref d2, .ref d3, .ref d4, .int (nI wt), .int isS, .int (nI nr), .int (nI ns), .ref d5, .ref d6, .ref d7, .ref d8, .ref d9, .ref da, .ref db, .int sta, .int nx, .int (nI sp), .int (nI cl2), .int (nI np), .ref dc, .ref dd, .ref de, .int (nI ww), .ref df, .ref dg, .ref dh])), (dd, .inl (cI, 8, .inl gr))] H := hP
    have hD : va_D A [(md, .inr (5, [.int th, .int (nI n), .ref d1, .ref d2, .ref d3, .ref d4, .int (nI wt), .int isS, .int (nI nr), .int (nI ns), .ref d5, .ref d6, .ref d7, .ref d8, .ref d9, .ref da, .ref db, .int sta, .int nx, .int (nI sp), .int (nI cl2), .int (nI np), .ref dc, .ref dd, .ref de, .int (nI ww), .ref df, .ref dg, .ref dh])), (dd, .inl (cI, 8, .inl gr))] := hD
    refine lv_if_eq (tgt := 26) hx hb d_Mod_register_19 (by decide) (fun c_19 => ?_) (fun c_19 => ?_)
    · skip
      have e_19 : (wi i ((0 : Int32)) (nI nr - 1)) = false := b2i_eq0 c_19
      refine lv_iconst (v := 1) hx hb d_Mod_register_26 (by decide) ?_
      refine va_put (D := (dC, dI)) (ci := 5) (v := .int ((1 : Int32))) (ty := .int) (C := R_Mod) (T := T_Mod) (N := 29) hx hb ht i_Mod t_Mod t_Mod_ok n_Mod hown hK hP hD hS 0 rfl rfl 0 (by decide) (ht _ mw_606) (fun _ h9 => h9) rfl (by decide +kernel) rfl rfl (Nat.le_of_ble_eq_true rfl) d_Mod_register_27 (fun H locs hP hD hS => ?_)
      have hP : va_P (dC, dI) smC [(md, .inr (5, [.int ((1 : Int32)), .int (nI n), .ref d1, .ref d2, .ref d3, .ref d4, .int (nI wt), .int isS, .int (nI nr), .int (nI ns), .ref d5, .ref d6, .ref d7, .ref d8, .ref d9, .ref da, .ref db, .int sta, .int nx, .int (nI sp), .int (nI cl2), .int (nI np), .ref dc, .ref dd, .ref de, .int (nI ww), .ref df, .ref dg, .ref dh])), (dd, .inl (cI, 8, .inl gr))] H := hP
      have hD : va_D A [(md, .inr (5, [.int ((1 : Int32)), .int (nI n), .ref d1, .ref d2, .ref d3, .ref d4, .int (nI wt), .int isS, .int (nI nr), .int (nI ns), .ref d5, .ref d6, .ref d7, .ref d8, .ref d9, .ref da, .ref db, .int sta, .int nx, .int (nI sp), .int (nI cl2), .int (nI np), .ref dc, .ref dd, .ref de, .int (nI ww), .ref df, .ref dg, .ref dh])), (dd, .inl (cI, 8, .inl gr))] := hD
      refine lv_aload_n hx hb d_Mod_register_30 rfl (lv_at hl 0 rfl) ?_
      refine va_get (D := (dC, dI)) (ci := 5) (v := .int ((1 : Int32))) (C := R_Mod) (T := T_Mod) (N := 29) hx hb ht i_Mod hown hK hP 0 rfl rfl 0 (by decide) (ht _ mw_606) (fun _ h9 => h9) rfl d_Mod_register_31 ?_
      refine lv_if_ne (tgt := 46) hx hb d_Mod_register_34 (by decide) (fun _ => ?_) (fun z => absurd z (by decide))
      refine lv_iconst (v := 0) hx hb d_Mod_register_46 (by decide) ?_
      refine sm_ri (v := (0 : Int32)) (ws := [(md, .inr (5, [.int ((1 : Int32)), .int (nI n), .ref d1, .ref d2, .ref d3, .ref d4, .int (nI wt), .int isS, .int (nI nr), .int (nI ns), .ref d5, .ref d6, .ref d7, .ref d8, .ref d9, .ref da, .ref db, .int sta, .int nx, .int (nI sp), .int (nI cl2), .int (nI np), .ref dc, .ref dd, .ref de, .int (nI ww), .ref df, .ref dg, .ref dh])), (dd, .inl (cI, 8, .inl gr))]) hx hb hr hlocks hK (hP.sub [0, 1] rfl) (hD.sub [0, 1] (by decide) rfl) hS ?_ d_Mod_register_47
      exact Or.inr ⟨fun z => (by have := z.2; rw [← wi_m1 (by omega), e_19] at this; cases this), rfl, rfl⟩
    · skip
      have e_19 : (wi i ((0 : Int32)) (nI nr - 1)) = true := b2i_ne0 c_19
      refine lv_iconst (v := 0) hx hb d_Mod_register_22 (by decide) ?_
      refine lv_goto (tgt := 27) hx hb d_Mod_register_23 (by decide) ?_
      refine va_put (D := (dC, dI)) (ci := 5) (v := .int ((0 : Int32))) (ty := .int) (C := R_Mod) (T := T_Mod) (N := 29) hx hb ht i_Mod t_Mod t_Mod_ok n_Mod hown hK hP hD hS 0 rfl rfl 0 (by decide) (ht _ mw_606) (fun _ h9 => h9) rfl (by decide +kernel) rfl rfl (Nat.le_of_ble_eq_true rfl) d_Mod_register_27 (fun H locs hP hD hS => ?_)
      have hP : va_P (dC, dI) smC [(md, .inr (5, [.int ((0 : Int32)), .int (nI n), .ref d1, .ref d2, .ref d3, .ref d4, .int (nI wt), .int isS, .int (nI nr), .int (nI ns), .ref d5, .ref d6, .ref d7, .ref d8, .ref d9, .ref da, .ref db, .int sta, .int nx, .int (nI sp), .int (nI cl2), .int (nI np), .ref dc, .ref dd, .ref de, .int (nI ww), .ref df, .ref dg, .ref dh])), (dd, .inl (cI, 8, .inl gr))] H := hP
      have hD : va_D A [(md, .inr (5, [.int ((0 : Int32)), .int (nI n), .ref d1, .ref d2, .ref d3, .ref d4, .int (nI wt), .int isS, .int (nI nr), .int (nI ns), .ref d5, .ref d6, .ref d7, .ref d8, .ref d9, .ref da, .ref db, .int sta, .int nx, .int (nI sp), .int (nI cl2), .int (nI np), .ref dc, .ref dd, .ref de, .int (nI ww), .ref df, .ref dg, .ref dh])), (dd, .inl (cI, 8, .inl gr))] := hD
      refine lv_aload_n hx hb d_Mod_register_30 rfl (lv_at hl 0 rfl) ?_
      refine va_get (D := (dC, dI)) (ci := 5) (v := .int ((0 : Int32))) (C := R_Mod) (T := T_Mod) (N := 29) hx hb ht i_Mod hown hK hP 0 rfl rfl 0 (by decide) (ht _ mw_606) (fun _ h9 => h9) rfl d_Mod_register_31 ?_
      refine lv_if_ne (tgt := 46) hx hb d_Mod_register_34 (by decide) (fun z => absurd z (by decide)) (fun _ => ?_)
      refine lv_aload_n hx hb d_Mod_register_37 rfl (lv_at hl 0 rfl) ?_
      refine va_get (D := (dC, dI)) (ci := 5) (v := .ref dd) (C := R_Mod) (T := T_Mod) (N := 29) hx hb ht i_Mod hown hK hP 0 rfl rfl 23 (by decide) (ht _ mw_629) (fun _ h9 => h9) rfl d_Mod_register_38 ?_
      refine lv_iload_n hx hb d_Mod_register_41 rfl (lv_at hl 1 rfl) ?_
      refine sm_iald (j := i.toNatClampNeg) hx hb hK hP 1 0 rfl rfl (sm_inB (inB_mono (by rw [← wi_m1 (by omega)]; exact e_19) hnr8)) rfl d_Mod_register_42 ?_
      refine lv_goto (tgt := 47) hx hb d_Mod_register_43 (by decide) ?_
      refine sm_ri (v := gr i.toNatClampNeg) (ws := [(md, .inr (5, [.int ((0 : Int32)), .int (nI n), .ref d1, .ref d2, .ref d3, .ref d4, .int (nI wt), .int isS, .int (nI nr), .int (nI ns), .ref d5, .ref d6, .ref d7, .ref d8, .ref d9, .ref da, .ref db, .int sta, .int nx, .int (nI sp), .int (nI cl2), .int (nI np), .ref dc, .ref dd, .ref de, .int (nI ww), .ref df, .ref dg, .ref dh])), (dd, .inl (cI, 8, .inl gr))]) hx hb hr hlocks hK (hP.sub [0, 1] rfl) (hD.sub [0, 1] (by decide) rfl) hS ?_ d_Mod_register_47
      exact Or.inl ⟨⟨c_5, by rw [← wi_m1 (by omega)]; exact e_19⟩, rfl, rfl⟩
abbrev y_Mod_slot : MethodName := ⟨"ScanMillModel", "slot", "(I)I"⟩
theorem d_Mod_slot_0 : decode prog_7_method_30_code 0 = .ok (.aload_n 0, 1) := by decide +kernel
theorem d_Mod_slot_1 : decode prog_7_method_30_code 1 = .ok (.aload_n 0, 1) := by decide +kernel
theorem d_Mod_slot_2 : decode prog_7_method_30_code 2 = .ok (.getfield 77, 3) := by decide +kernel
theorem d_Mod_slot_5 : decode prog_7_method_30_code 5 = .ok (.ifCond .eq 21, 3) := by decide +kernel
theorem d_Mod_slot_26 : decode prog_7_method_30_code 26 = .ok (.iconst 1, 1) := by decide +kernel
theorem d_Mod_slot_27 : decode prog_7_method_30_code 27 = .ok (.putfield 66, 3) := by decide +kernel
theorem d_Mod_slot_30 : decode prog_7_method_30_code 30 = .ok (.aload_n 0, 1) := by decide +kernel
theorem d_Mod_slot_31 : decode prog_7_method_30_code 31 = .ok (.getfield 66, 3) := by decide +kernel
theorem d_Mod_slot_34 : decode prog_7_method_30_code 34 = .ok (.ifCond .ne 12, 3) := by decide +kernel
theorem d_Mod_slot_46 : decode prog_7_method_30_code 46 = .ok (.iconst 0, 1) := by decide +kernel
theorem d_Mod_slot_47 : decode prog_7_method_30_code 47 = .ok (.ireturn, 1) := by decide +kernel
theorem d_Mod_slot_8 : decode prog_7_method_30_code 8 = .ok (.iload_n 1, 1) := by decide +kernel
theorem d_Mod_slot_9 : decode prog_7_method_30_code 9 = .ok (.iconst 0, 1) := by decide +kernel
theorem d_Mod_slot_10 : decode prog_7_method_30_code 10 = .ok (.aload_n 0, 1) := by decide +kernel
theorem d_Mod_slot_11 : decode prog_7_method_30_code 11 = .ok (.getfield 114, 3) := by decide +kernel
theorem d_Mod_slot_14 : decode prog_7_method_30_code 14 = .ok (.iconst 1, 1) := by decide +kernel
theorem d_Mod_slot_15 : decode prog_7_method_30_code 15 = .ok (.isub, 1) := by decide +kernel
theorem d_Mod_slot_16 : decode prog_7_method_30_code 16 = .ok (.invokestatic 69, 3) := by decide +kernel
theorem d_Mod_slot_19 : decode prog_7_method_30_code 19 = .ok (.ifCond .eq 7, 3) := by decide +kernel
theorem d_Mod_slot_22 : decode prog_7_method_30_code 22 = .ok (.iconst 0, 1) := by decide +kernel
theorem d_Mod_slot_23 : decode prog_7_method_30_code 23 = .ok (.goto 4, 3) := by decide +kernel
theorem d_Mod_slot_37 : decode prog_7_method_30_code 37 = .ok (.aload_n 0, 1) := by decide +kernel
theorem d_Mod_slot_38 : decode prog_7_method_30_code 38 = .ok (.getfield 54, 3) := by decide +kernel
theorem d_Mod_slot_41 : decode prog_7_method_30_code 41 = .ok (.iload_n 1, 1) := by decide +kernel
theorem d_Mod_slot_42 : decode prog_7_method_30_code 42 = .ok (.iaload, 1) := by decide +kernel
theorem d_Mod_slot_43 : decode prog_7_method_30_code 43 = .ok (.goto 4, 3) := by decide +kernel
set_option maxRecDepth 100000 in
set_option maxHeartbeats 4000000 in
theorem c_Mod_slot {l : Launch} {dC : Nat → ClassId} {dI : Nat → Nat → Nat} {cI cZ : ClassId} {md d1 d2 d3 d4 d5 d6 d7 d8 d9 da db dc dd de df dg dh n wt nr ns sp cl2 np ww : Nat} {th isS sta nx : Int32} {gs : Nat → Int32} {i : Int32} (hns : ns ≤ 24) : sm_I l y_Mod_slot prog_7_method_30_code 2 (some .int) (rmF 1 22) (dC, dI) smC [(cI, .int), (cZ, .boolean)] [.ref md, .int i] [(md, .inr (5, [.int th, .int (nI n), .ref d1, .ref d2, .ref d3, .ref d4, .int (nI wt), .int isS, .int (nI nr), .int (nI ns), .ref d5, .ref d6, .ref d7, .ref d8, .ref d9, .ref da, .ref db, .int sta, .int nx, .int (nI sp), .int (nI cl2), .int (nI np), .ref dc, .ref dd, .ref de, .int (nI ww), .ref df, .ref dg, .ref dh])), (de, .inl (cI, 24, .inl gs))] (fun q w2 => ((¬ sta = 0 ∧ inB i ns = true) ∧ q = (gs i.toNatClampNeg) ∧ w2 = [(md, .inr (5, [.int ((0 : Int32)), .int (nI n), .ref d1, .ref d2, .ref d3, .ref d4, .int (nI wt), .int isS, .int (nI nr), .int (nI ns), .ref d5, .ref d6, .ref d7, .ref d8, .ref d9, .ref da, .ref db, .int sta, .int nx, .int (nI sp), .int (nI cl2), .int (nI np), .ref dc, .ref dd, .ref de, .int (nI ww), .ref df, .ref dg, .ref dh])), (de, .inl (cI, 24, .inl gs))]) ∨ (¬ (¬ sta = 0 ∧ inB i ns = true) ∧ q = ((0 : Int32)) ∧ w2 = [(md, .inr (5, [.int ((1 : Int32)), .int (nI n), .ref d1, .ref d2, .ref d3, .ref d4, .int (nI wt), .int isS, .int (nI nr), .int (nI ns), .ref d5, .ref d6, .ref d7, .ref d8, .ref d9, .ref da, .ref db, .int sta, .int nx, .int (nI sp), .int (nI cl2), .int (nI np), .ref dc, .ref dd, .ref de, .int (nI ww), .ref df, .ref dg, .ref dh])), (de, .inl (cI, 24, .inl gs))])) := by
  refine sm_I.mk (by decide) (Nat.le_of_ble_eq_true rfl) ?_
  intro p e s m below meth c A H locs ls hx hb hr ht hown hlocks hml hnm hP hK hD hA hS hN hl
  have hl : lv_has ls 2 [(0, .ref md), (1, .int i)] := hl
  refine lv_aload_n hx hb d_Mod_slot_0 rfl (lv_at hl 0 rfl) ?_
  refine lv_aload_n hx hb d_Mod_slot_1 rfl (lv_at hl 0 rfl) ?_
  refine va_get (D := (dC, dI)) (ci := 5) (v := .int sta) (C := R_Mod) (T := T_Mod) (N := 29) hx hb ht i_Mod hown hK hP 0 rfl rfl 17 (by decide) (ht _ mw_623) (fun _ h9 => h9) rfl d_Mod_slot_2 ?_
  refine lv_if_eq (tgt := 26) hx hb d_Mod_slot_5 (by decide) (fun c_5 => ?_) (fun c_5 => ?_)
  · skip
    refine lv_iconst (v := 1) hx hb d_Mod_slot_26 (by decide) ?_
    refine va_put (D := (dC, dI)) (ci := 5) (v := .int ((1 : Int32))) (ty := .int) (C := R_Mod) (T := T_Mod) (N := 29) hx hb ht i_Mod t_Mod t_Mod_ok n_Mod hown hK hP hD hS 0 rfl rfl 0 (by decide) (ht _ mw_606) (fun _ h9 => h9) rfl (by decide +kernel) rfl rfl (Nat.le_of_ble_eq_true rfl) d_Mod_slot_27 (fun H locs hP hD hS => ?_)
    have hP : va_P (dC, dI) smC [(md, .inr (5, [.int ((1 : Int32)), .int (nI n), .ref d1, .ref d2, .ref d3, .ref d4, .int (nI wt), .int isS, .int (nI nr), .int (nI ns), .ref d5, .ref d6, .ref d7, .ref d8, .ref d9, .ref da, .ref db, .int sta, .int nx, .int (nI sp), .int (nI cl2), .int (nI np), .ref dc, .ref dd, .ref de, .int (nI ww), .ref df, .ref dg, .ref dh])), (de, .inl (cI, 24, .inl gs))] H := hP
    have hD : va_D A [(md, .inr (5, [.int ((1 : Int32)), .int (nI n), .ref d1, .ref d2, .ref d3, .ref d4, .int (nI wt), .int isS, .int (nI nr), .int (nI ns), .ref d5, .ref d6, .ref d7, .ref d8, .ref d9, .ref da, .ref db, .int sta, .int nx, .int (nI sp), .int (nI cl2), .int (nI np), .ref dc, .ref dd, .ref de, .int (nI ww), .ref df, .ref dg, .ref dh])), (de, .inl (cI, 24, .inl gs))] := hD
    refine lv_aload_n hx hb d_Mod_slot_30 rfl (lv_at hl 0 rfl) ?_
    refine va_get (D := (dC, dI)) (ci := 5) (v := .int ((1 : Int32))) (C := R_Mod) (T := T_Mod) (N := 29) hx hb ht i_Mod hown hK hP 0 rfl rfl 0 (by decide) (ht _ mw_606) (fun _ h9 => h9) rfl d_Mod_slot_31 ?_
    refine lv_if_ne (tgt := 46) hx hb d_Mod_slot_34 (by decide) (fun _ => ?_) (fun z => absurd z (by decide))
    refine lv_iconst (v := 0) hx hb d_Mod_slot_46 (by decide) ?_
    refine sm_ri (v := (0 : Int32)) (ws := [(md, .inr (5, [.int ((1 : Int32)), .int (nI n), .ref d1, .ref d2, .ref d3, .ref d4, .int (nI wt), .int isS, .int (nI nr), .int (nI ns), .ref d5, .ref d6, .ref d7, .ref d8, .ref d9, .ref da, .ref db, .int sta, .int nx, .int (nI sp), .int (nI cl2), .int (nI np), .ref dc, .ref dd, .ref de, .int (nI ww), .ref df, .ref dg, .ref dh])), (de, .inl (cI, 24, .inl gs))]) hx hb hr hlocks hK (hP.sub [0, 1] rfl) (hD.sub [0, 1] (by decide) rfl) hS ?_ d_Mod_slot_47
    exact Or.inr ⟨fun z => z.1 c_5, rfl, rfl⟩
  · skip
    refine lv_iload_n hx hb d_Mod_slot_8 rfl (lv_at hl 1 rfl) ?_
    refine lv_iconst (v := 0) hx hb d_Mod_slot_9 (by decide) ?_
    refine lv_aload_n hx hb d_Mod_slot_10 rfl (lv_at hl 0 rfl) ?_
    refine va_get (D := (dC, dI)) (ci := 5) (v := .int (nI ns)) (C := R_Mod) (T := T_Mod) (N := 29) hx hb ht i_Mod hown hK hP 0 rfl rfl 9 (by decide) (ht _ mw_615) (fun _ h9 => h9) rfl d_Mod_slot_11 ?_
    refine lv_iconst (v := 1) hx hb d_Mod_slot_14 (by decide) ?_
    refine lv_isub hx hb d_Mod_slot_15 ?_
    refine sm_goi (wc := []) (wr := [(md, .inr (5, [.int th, .int (nI n), .ref d1, .ref d2, .ref d3, .ref d4, .int (nI wt), .int isS, .int (nI nr), .int (nI ns), .ref d5, .ref d6, .ref d7, .ref d8, .ref d9, .ref da, .ref db, .int sta, .int nx, .int (nI sp), .int (nI cl2), .int (nI np), .ref dc, .ref dd, .ref de, .int (nI ww), .ref df, .ref dg, .ref dh])), (de, .inl (cI, 24, .inl gs))]) (va_runS (As := [.int i, .int ((0 : Int32)), .int (nI ns - 1)]) (rest := [.ref md]) ⟨hx, hb, hml, hown, ht⟩ ((c_Mod_within (l := l) (dC := dC) (dI := dI) (cI := cI) (cZ := cZ) (x := i) (lo := (0 : Int32)) (hi := nI ns - 1) ).at H.size) (sm_cS 3 ht mw_704 mw_6 mw_702 mw_703 rfl rfl (by decide +kernel) ⟨Nat.le_of_ble_eq_true rfl, Nat.le_of_ble_eq_true rfl⟩) (sm_preS hN hK hP hD [] rfl rfl (by decide)) rfl rfl hl.1 rfl (lv_room (Nat.le_of_ble_eq_true rfl)) d_Mod_slot_16 ⟨Nat.zero_le _, Nat.zero_le _⟩) hP hD hS hA [] [0, 1] rfl rfl (by decide) (by decide) (fun r_16 w_16 H locs q_16 hP hD hS => ?_)
    obtain ⟨rfl, rfl⟩ := q_16
    have hP : va_P (dC, dI) smC [(md, .inr (5, [.int th, .int (nI n), .ref d1, .ref d2, .ref d3, .ref d4, .int (nI wt), .int isS, .int (nI nr), .int (nI ns), .ref d5, .ref d6, .ref d7, .ref d8, .ref d9, .ref da, .ref db, .int sta, .int nx, .int (nI sp), .int (nI cl2), .int (nI np), .ref dc, .ref dd, .ref de, .int (nI ww), .ref df, .ref dg, .ref dh])), (de, .inl (cI, 24, .inl gs))] H := hP
    have hD : va_D A [(md, .inr (5, [.int th, .int (nI n), .ref d1, .ref d2, .ref d3, .ref d4, .int (nI wt), .int isS, .int (nI nr), .int (nI ns), .ref d5, .ref d6, .ref d7, .ref d8, .ref d9, .ref da, .ref db, .int sta, .int nx, .int (nI sp), .int (nI cl2), .int (nI np), .ref dc, .ref dd, .ref de, .int (nI ww), .ref df, .ref dg, .ref dh])), (de, .inl (cI, 24, .inl gs))] := hD
    refine lv_if_eq (tgt := 26) hx hb d_Mod_slot_19 (by decide) (fun c_19 => ?_) (fun c_19 => ?_)
    · skip
      have e_19 : (wi i ((0 : Int32)) (nI ns - 1)) = false := b2i_eq0 c_19
      refine lv_iconst (v := 1) hx hb d_Mod_slot_26 (by decide) ?_
      refine va_put (D := (dC, dI)) (ci := 5) (v := .int ((1 : Int32))) (ty := .int) (C := R_Mod) (T := T_Mod) (N := 29) hx hb ht i_Mod t_Mod t_Mod_ok n_Mod hown hK hP hD hS 0 rfl rfl 0 (by decide) (ht _ mw_606) (fun _ h9 => h9) rfl (by decide +kernel) rfl rfl (Nat.le_of_ble_eq_true rfl) d_Mod_slot_27 (fun H locs hP hD hS => ?_)
      have hP : va_P (dC, dI) smC [(md, .inr (5, [.int ((1 : Int32)), .int (nI n), .ref d1, .ref d2, .ref d3, .ref d4, .int (nI wt), .int isS, .int (nI nr), .int (nI ns), .ref d5, .ref d6, .ref d7, .ref d8, .ref d9, .ref da, .ref db, .int sta, .int nx, .int (nI sp), .int (nI cl2), .int (nI np), .ref dc, .ref dd, .ref de, .int (nI ww), .ref df, .ref dg, .ref dh])), (de, .inl (cI, 24, .inl gs))] H := hP
      have hD : va_D A [(md, .inr (5, [.int ((1 : Int32)), .int (nI n), .ref d1, .ref d2, .ref d3, .ref d4, .int (nI wt), .int isS, .int (nI nr), .int (nI ns), .ref d5, .ref d6, .ref d7, .ref d8, .ref d9, .ref da, .ref db, .int sta, .int nx, .int (nI sp), .int (nI cl2), .int (nI np), .ref dc, .ref dd, .ref de, .int (nI ww), .ref df, .ref dg, .ref dh])), (de, .inl (cI, 24, .inl gs))] := hD
      refine lv_aload_n hx hb d_Mod_slot_30 rfl (lv_at hl 0 rfl) ?_
      refine va_get (D := (dC, dI)) (ci := 5) (v := .int ((1 : Int32))) (C := R_Mod) (T := T_Mod) (N := 29) hx hb ht i_Mod hown hK hP 0 rfl rfl 0 (by decide) (ht _ mw_606) (fun _ h9 => h9) rfl d_Mod_slot_31 ?_
      refine lv_if_ne (tgt := 46) hx hb d_Mod_slot_34 (by decide) (fun _ => ?_) (fun z => absurd z (by decide))
      refine lv_iconst (v := 0) hx hb d_Mod_slot_46 (by decide) ?_
      refine sm_ri (v := (0 : Int32)) (ws := [(md, .inr (5, [.int ((1 : Int32)), .int (nI n), .ref d1, .ref d2, .ref d3, .ref d4, .int (nI wt), .int isS, .int (nI nr), .int (nI ns), .ref d5, .ref d6, .ref d7, .ref d8, .ref d9, .ref da, .ref db, .int sta, .int nx, .int (nI sp), .int (nI cl2), .int (nI np), .ref dc, .ref dd, .ref de, .int (nI ww), .ref df, .ref dg, .ref dh])), (de, .inl (cI, 24, .inl gs))]) hx hb hr hlocks hK (hP.sub [0, 1] rfl) (hD.sub [0, 1] (by decide) rfl) hS ?_ d_Mod_slot_47
      exact Or.inr ⟨fun z => (by have := z.2; rw [← wi_m1 (by omega), e_19] at this; cases this), rfl, rfl⟩
    · skip
      have e_19 : (wi i ((0 : Int32)) (nI ns - 1)) = true := b2i_ne0 c_19
      refine lv_iconst (v := 0) hx hb d_Mod_slot_22 (by decide) ?_
      refine lv_goto (tgt := 27) hx hb d_Mod_slot_23 (by decide) ?_
      refine va_put (D := (dC, dI)) (ci := 5) (v := .int ((0 : Int32))) (ty := .int) (C := R_Mod) (T := T_Mod) (N := 29) hx hb ht i_Mod t_Mod t_Mod_ok n_Mod hown hK hP hD hS 0 rfl rfl 0 (by decide) (ht _ mw_606) (fun _ h9 => h9) rfl (by decide +kernel) rfl rfl (Nat.le_of_ble_eq_true rfl) d_Mod_slot_27 (fun H locs hP hD hS => ?_)
      have hP : va_P (dC, dI) smC [(md, .inr (5, [.int ((0 : Int32)), .int (nI n), .ref d1, .ref d2, .ref d3, .ref d4, .int (nI wt), .int isS, .int (nI nr), .int (nI ns), .ref d5, .ref d6, .ref d7, .ref d8, .ref d9, .ref da, .ref db, .int sta, .int nx, .int (nI sp), .int (nI cl2), .int (nI np), .ref dc, .ref dd, .ref de, .int (nI ww), .ref df, .ref dg, .ref dh])), (de, .inl (cI, 24, .inl gs))] H := hP
      have hD : va_D A [(md, .inr (5, [.int ((0 : Int32)), .int (nI n), .ref d1, .ref d2, .ref d3, .ref d4, .int (nI wt), .int isS, .int (nI nr), .int (nI ns), .ref d5, .ref d6, .ref d7, .ref d8, .ref d9, .ref da, .ref db, .int sta, .int nx, .int (nI sp), .int (nI cl2), .int (nI np), .ref dc, .ref dd, .ref de, .int (nI ww), .ref df, .ref dg, .ref dh])), (de, .inl (cI, 24, .inl gs))] := hD
      refine lv_aload_n hx hb d_Mod_slot_30 rfl (lv_at hl 0 rfl) ?_
      refine va_get (D := (dC, dI)) (ci := 5) (v := .int ((0 : Int32))) (C := R_Mod) (T := T_Mod) (N := 29) hx hb ht i_Mod hown hK hP 0 rfl rfl 0 (by decide) (ht _ mw_606) (fun _ h9 => h9) rfl d_Mod_slot_31 ?_
      refine lv_if_ne (tgt := 46) hx hb d_Mod_slot_34 (by decide) (fun z => absurd z (by decide)) (fun _ => ?_)
      refine lv_aload_n hx hb d_Mod_slot_37 rfl (lv_at hl 0 rfl) ?_
      refine va_get (D := (dC, dI)) (ci := 5) (v := .ref de) (C := R_Mod) (T := T_Mod) (N := 29) hx hb ht i_Mod hown hK hP 0 rfl rfl 24 (by decide) (ht _ mw_630) (fun _ h9 => h9) rfl d_Mod_slot_38 ?_
      refine lv_iload_n hx hb d_Mod_slot_41 rfl (lv_at hl 1 rfl) ?_
      refine sm_iald (j := i.toNatClampNeg) hx hb hK hP 1 0 rfl rfl (sm_inB (inB_mono (by rw [← wi_m1 (by omega)]; exact e_19) hns)) rfl d_Mod_slot_42 ?_
      refine lv_goto (tgt := 47) hx hb d_Mod_slot_43 (by decide) ?_
      refine sm_ri (v := gs i.toNatClampNeg) (ws := [(md, .inr (5, [.int ((0 : Int32)), .int (nI n), .ref d1, .ref d2, .ref d3, .ref d4, .int (nI wt), .int isS, .int (nI nr), .int (nI ns), .ref d5, .ref d6, .ref d7, .ref d8, .ref d9, .ref da, .ref db, .int sta, .int nx, .int (nI sp), .int (nI cl2), .int (nI np), .ref dc, .ref dd, .ref de, .int (nI ww), .ref df, .ref dg, .ref dh])), (de, .inl (cI, 24, .inl gs))]) hx hb hr hlocks hK (hP.sub [0, 1] rfl) (hD.sub [0, 1] (by decide) rfl) hS ?_ d_Mod_slot_47
      exact Or.inl ⟨⟨c_5, by rw [← wi_m1 (by omega)]; exact e_19⟩, rfl, rfl⟩
abbrev y_Mod_output : MethodName := ⟨"ScanMillModel", "output", "(I)I"⟩
theorem d_Mod_output_0 : decode prog_7_method_31_code 0 = .ok (.aload_n 0, 1) := by decide +kernel
theorem d_Mod_output_1 : decode prog_7_method_31_code 1 = .ok (.aload_n 0, 1) := by decide +kernel
theorem d_Mod_output_2 : decode prog_7_method_31_code 2 = .ok (.getfield 77, 3) := by decide +kernel
theorem d_Mod_output_5 : decode prog_7_method_31_code 5 = .ok (.ifCond .eq 26, 3) := by decide +kernel
theorem d_Mod_output_31 : decode prog_7_method_31_code 31 = .ok (.iconst 1, 1) := by decide +kernel
theorem d_Mod_output_32 : decode prog_7_method_31_code 32 = .ok (.putfield 66, 3) := by decide +kernel
theorem d_Mod_output_35 : decode prog_7_method_31_code 35 = .ok (.aload_n 0, 1) := by decide +kernel
theorem d_Mod_output_36 : decode prog_7_method_31_code 36 = .ok (.getfield 66, 3) := by decide +kernel
theorem d_Mod_output_39 : decode prog_7_method_31_code 39 = .ok (.ifCond .ne 12, 3) := by decide +kernel
theorem d_Mod_output_51 : decode prog_7_method_31_code 51 = .ok (.iconst 0, 1) := by decide +kernel
theorem d_Mod_output_52 : decode prog_7_method_31_code 52 = .ok (.ireturn, 1) := by decide +kernel
theorem d_Mod_output_8 : decode prog_7_method_31_code 8 = .ok (.iload_n 1, 1) := by decide +kernel
theorem d_Mod_output_9 : decode prog_7_method_31_code 9 = .ok (.ifCond .lt 22, 3) := by decide +kernel
theorem d_Mod_output_12 : decode prog_7_method_31_code 12 = .ok (.iload_n 1, 1) := by decide +kernel
theorem d_Mod_output_13 : decode prog_7_method_31_code 13 = .ok (.aload_n 0, 1) := by decide +kernel
theorem d_Mod_output_14 : decode prog_7_method_31_code 14 = .ok (.getfield 142, 3) := by decide +kernel
theorem d_Mod_output_17 : decode prog_7_method_31_code 17 = .ok (.if_icmp .ge 14, 3) := by decide +kernel
theorem d_Mod_output_20 : decode prog_7_method_31_code 20 = .ok (.iload_n 1, 1) := by decide +kernel
theorem d_Mod_output_21 : decode prog_7_method_31_code 21 = .ok (.sipush 300, 3) := by decide +kernel
theorem d_Mod_output_24 : decode prog_7_method_31_code 24 = .ok (.if_icmp .ge 7, 3) := by decide +kernel
theorem d_Mod_output_27 : decode prog_7_method_31_code 27 = .ok (.iconst 0, 1) := by decide +kernel
theorem d_Mod_output_28 : decode prog_7_method_31_code 28 = .ok (.goto 4, 3) := by decide +kernel
theorem d_Mod_output_42 : decode prog_7_method_31_code 42 = .ok (.aload_n 0, 1) := by decide +kernel
theorem d_Mod_output_43 : decode prog_7_method_31_code 43 = .ok (.getfield 48, 3) := by decide +kernel
theorem mw_628 : Cond.fieldLink "ScanMillModel" 48 "ScanMillModel" "output" "[I" ∈ wG := wG_t 628 (by decide +kernel) (by decide +kernel)
theorem d_Mod_output_46 : decode prog_7_method_31_code 46 = .ok (.iload_n 1, 1) := by decide +kernel
theorem d_Mod_output_47 : decode prog_7_method_31_code 47 = .ok (.iaload, 1) := by decide +kernel
theorem d_Mod_output_48 : decode prog_7_method_31_code 48 = .ok (.goto 4, 3) := by decide +kernel
set_option maxRecDepth 100000 in
set_option maxHeartbeats 4000000 in
theorem c_Mod_output {l : Launch} {dC : Nat → ClassId} {dI : Nat → Nat → Nat} {cI cZ : ClassId} {md d1 d2 d3 d4 d5 d6 d7 d8 d9 da db dc dd de df dg dh n wt nr ns sp cl2 np ww : Nat} {th isS sta nx : Int32} {go : Nat → Int32} {k : Int32} (hnp : np ≤ 3000) : sm_I l y_Mod_output prog_7_method_31_code 2 (some .int) (rmF 0 0) (dC, dI) smC [(cI, .int), (cZ, .boolean)] [.ref md, .int k] [(md, .inr (5, [.int th, .int (nI n), .ref d1, .ref d2, .ref d3, .ref d4, .int (nI wt), .int isS, .int (nI nr), .int (nI ns), .ref d5, .ref d6, .ref d7, .ref d8, .ref d9, .ref da, .ref db, .int sta, .int nx, .int (nI sp), .int (nI cl2), .int (nI np), .ref dc, .ref dd, .ref de, .int (nI ww), .ref df, .ref dg, .ref dh])), (dc, .inl (cI, 300, .inl go))] (fun q w2 => ((¬ sta = 0 ∧ inB k (min np 300) = true) ∧ q = (go k.toNatClampNeg) ∧ w2 = [(md, .inr (5, [.int ((0 : Int32)), .int (nI n), .ref d1, .ref d2, .ref d3, .ref d4, .int (nI wt), .int isS, .int (nI nr), .int (nI ns), .ref d5, .ref d6, .ref d7, .ref d8, .ref d9, .ref da, .ref db, .int sta, .int nx, .int (nI sp), .int (nI cl2), .int (nI np), .ref dc, .ref dd, .ref de, .int (nI ww), .ref df, .ref dg, .ref dh])), (dc, .inl (cI, 300, .inl go))]) ∨ (¬ (¬ sta = 0 ∧ inB k (min np 300) = true) ∧ q = ((0 : Int32)) ∧ w2 = [(md, .inr (5, [.int ((1 : Int32)), .int (nI n), .ref d1, .ref d2, .ref d3, .ref d4, .int (nI wt), .int isS, .int (nI nr), .int (nI ns), .ref d5, .ref d6, .ref d7, .ref d8, .ref d9, .ref da, .ref db, .int sta, .int nx, .int (nI sp), .int (nI cl2), .int (nI np), .ref dc, .ref dd, .ref de, .int (nI ww), .ref df, .ref dg, .ref dh])), (dc, .inl (cI, 300, .inl go))])) := by
  refine sm_I.mk (by decide) (Nat.le_of_ble_eq_true rfl) ?_
  intro p e s m below meth c A H locs ls hx hb hr ht hown hlocks hml hnm hP hK hD hA hS hN hl
  have hl : lv_has ls 2 [(0, .ref md), (1, .int k)] := hl
  refine lv_aload_n hx hb d_Mod_output_0 rfl (lv_at hl 0 rfl) ?_
  refine lv_aload_n hx hb d_Mod_output_1 rfl (lv_at hl 0 rfl) ?_
  refine va_get (D := (dC, dI)) (ci := 5) (v := .int sta) (C := R_Mod) (T := T_Mod) (N := 29) hx hb ht i_Mod hown hK hP 0 rfl rfl 17 (by decide) (ht _ mw_623) (fun _ h9 => h9) rfl d_Mod_output_2 ?_
  refine lv_if_eq (tgt := 31) hx hb d_Mod_output_5 (by decide) (fun c_5 => ?_) (fun c_5 => ?_)
  · skip
    refine lv_iconst (v := 1) hx hb d_Mod_output_31 (by decide) ?_
    refine va_put (D := (dC, dI)) (ci := 5) (v := .int ((1 : Int32))) (ty := .int) (C := R_Mod) (T := T_Mod) (N := 29) hx hb ht i_Mod t_Mod t_Mod_ok n_Mod hown hK hP hD hS 0 rfl rfl 0 (by decide) (ht _ mw_606) (fun _ h9 => h9) rfl (by decide +kernel) rfl rfl (Nat.le_of_ble_eq_true rfl) d_Mod_output_32 (fun H locs hP hD hS => ?_)
    have hP : va_P (dC, dI) smC [(md, .inr (5, [.int ((1 : Int32)), .int (nI n), .ref d1, .ref d2, .ref d3, .ref d4, .int (nI wt), .int isS, .int (nI nr), .int (nI ns), .ref d5, .ref d6, .ref d7, .ref d8, .ref d9, .ref da, .ref db, .int sta, .int nx, .int (nI sp), .int (nI cl2), .int (nI np), .ref dc, .ref dd, .ref de, .int (nI ww), .ref df, .ref dg, .ref dh])), (dc, .inl (cI, 300, .inl go))] H := hP
    have hD : va_D A [(md, .inr (5, [.int ((1 : Int32)), .int (nI n), .ref d1, .ref d2, .ref d3, .ref d4, .int (nI wt), .int isS, .int (nI nr), .int (nI ns), .ref d5, .ref d6, .ref d7, .ref d8, .ref d9, .ref da, .ref db, .int sta, .int nx, .int (nI sp), .int (nI cl2), .int (nI np), .ref dc, .ref dd, .ref de, .int (nI ww), .ref df, .ref dg, .ref dh])), (dc, .inl (cI, 300, .inl go))] := hD
    refine lv_aload_n hx hb d_Mod_output_35 rfl (lv_at hl 0 rfl) ?_
    refine va_get (D := (dC, dI)) (ci := 5) (v := .int ((1 : Int32))) (C := R_Mod) (T := T_Mod) (N := 29) hx hb ht i_Mod hown hK hP 0 rfl rfl 0 (by decide) (ht _ mw_606) (fun _ h9 => h9) rfl d_Mod_output_36 ?_
    refine lv_if_ne (tgt := 51) hx hb d_Mod_output_39 (by decide) (fun _ => ?_) (fun z => absurd z (by decide))
    refine lv_iconst (v := 0) hx hb d_Mod_output_51 (by decide) ?_
    refine sm_ri (v := (0 : Int32)) (ws := [(md, .inr (5, [.int ((1 : Int32)), .int (nI n), .ref d1, .ref d2, .ref d3, .ref d4, .int (nI wt), .int isS, .int (nI nr), .int (nI ns), .ref d5, .ref d6, .ref d7, .ref d8, .ref d9, .ref da, .ref db, .int sta, .int nx, .int (nI sp), .int (nI cl2), .int (nI np), .ref dc, .ref dd, .ref de, .int (nI ww), .ref df, .ref dg, .ref dh])), (dc, .inl (cI, 300, .inl go))]) hx hb hr hlocks hK (hP.sub [0, 1] rfl) (hD.sub [0, 1] (by decide) rfl) hS ?_ d_Mod_output_52
    exact Or.inr ⟨fun z => z.1 c_5, rfl, rfl⟩
  · skip
    refine lv_iload_n hx hb d_Mod_output_8 rfl (lv_at hl 1 rfl) ?_
    refine lv_if_lt (tgt := 31) hx hb d_Mod_output_9 (by decide) (fun c_9 => ?_) (fun c_9 => ?_)
    · skip
      refine lv_iconst (v := 1) hx hb d_Mod_output_31 (by decide) ?_
      refine va_put (D := (dC, dI)) (ci := 5) (v := .int ((1 : Int32))) (ty := .int) (C := R_Mod) (T := T_Mod) (N := 29) hx hb ht i_Mod t_Mod t_Mod_ok n_Mod hown hK hP hD hS 0 rfl rfl 0 (by decide) (ht _ mw_606) (fun _ h9 => h9) rfl (by decide +kernel) rfl rfl (Nat.le_of_ble_eq_true rfl) d_Mod_output_32 (fun H locs hP hD hS => ?_)
      have hP : va_P (dC, dI) smC [(md, .inr (5, [.int ((1 : Int32)), .int (nI n), .ref d1, .ref d2, .ref d3, .ref d4, .int (nI wt), .int isS, .int (nI nr), .int (nI ns), .ref d5, .ref d6, .ref d7, .ref d8, .ref d9, .ref da, .ref db, .int sta, .int nx, .int (nI sp), .int (nI cl2), .int (nI np), .ref dc, .ref dd, .ref de, .int (nI ww), .ref df, .ref dg, .ref dh])), (dc, .inl (cI, 300, .inl go))] H := hP
      have hD : va_D A [(md, .inr (5, [.int ((1 : Int32)), .int (nI n), .ref d1, .ref d2, .ref d3, .ref d4, .int (nI wt), .int isS, .int (nI nr), .int (nI ns), .ref d5, .ref d6, .ref d7, .ref d8, .ref d9, .ref da, .ref db, .int sta, .int nx, .int (nI sp), .int (nI cl2), .int (nI np), .ref dc, .ref dd, .ref de, .int (nI ww), .ref df, .ref dg, .ref dh])), (dc, .inl (cI, 300, .inl go))] := hD
      refine lv_aload_n hx hb d_Mod_output_35 rfl (lv_at hl 0 rfl) ?_
      refine va_get (D := (dC, dI)) (ci := 5) (v := .int ((1 : Int32))) (C := R_Mod) (T := T_Mod) (N := 29) hx hb ht i_Mod hown hK hP 0 rfl rfl 0 (by decide) (ht _ mw_606) (fun _ h9 => h9) rfl d_Mod_output_36 ?_
      refine lv_if_ne (tgt := 51) hx hb d_Mod_output_39 (by decide) (fun _ => ?_) (fun z => absurd z (by decide))
      refine lv_iconst (v := 0) hx hb d_Mod_output_51 (by decide) ?_
      refine sm_ri (v := (0 : Int32)) (ws := [(md, .inr (5, [.int ((1 : Int32)), .int (nI n), .ref d1, .ref d2, .ref d3, .ref d4, .int (nI wt), .int isS, .int (nI nr), .int (nI ns), .ref d5, .ref d6, .ref d7, .ref d8, .ref d9, .ref da, .ref db, .int sta, .int nx, .int (nI sp), .int (nI cl2), .int (nI np), .ref dc, .ref dd, .ref de, .int (nI ww), .ref df, .ref dg, .ref dh])), (dc, .inl (cI, 300, .inl go))]) hx hb hr hlocks hK (hP.sub [0, 1] rfl) (hD.sub [0, 1] (by decide) rfl) hS ?_ d_Mod_output_52
      exact Or.inr ⟨fun z => (((out_in hnp).mp z.2).1 c_9), rfl, rfl⟩
    · skip
      refine lv_iload_n hx hb d_Mod_output_12 rfl (lv_at hl 1 rfl) ?_
      refine lv_aload_n hx hb d_Mod_output_13 rfl (lv_at hl 0 rfl) ?_
      refine va_get (D := (dC, dI)) (ci := 5) (v := .int (nI np)) (C := R_Mod) (T := T_Mod) (N := 29) hx hb ht i_Mod hown hK hP 0 rfl rfl 21 (by decide) (ht _ mw_627) (fun _ h9 => h9) rfl d_Mod_output_14 ?_
      refine lv_icmp_ge (tgt := 31) hx hb d_Mod_output_17 (by decide) (fun c_17 => ?_) (fun c_17 => ?_)
      · skip
        refine lv_iconst (v := 1) hx hb d_Mod_output_31 (by decide) ?_
        refine va_put (D := (dC, dI)) (ci := 5) (v := .int ((1 : Int32))) (ty := .int) (C := R_Mod) (T := T_Mod) (N := 29) hx hb ht i_Mod t_Mod t_Mod_ok n_Mod hown hK hP hD hS 0 rfl rfl 0 (by decide) (ht _ mw_606) (fun _ h9 => h9) rfl (by decide +kernel) rfl rfl (Nat.le_of_ble_eq_true rfl) d_Mod_output_32 (fun H locs hP hD hS => ?_)
        have hP : va_P (dC, dI) smC [(md, .inr (5, [.int ((1 : Int32)), .int (nI n), .ref d1, .ref d2, .ref d3, .ref d4, .int (nI wt), .int isS, .int (nI nr), .int (nI ns), .ref d5, .ref d6, .ref d7, .ref d8, .ref d9, .ref da, .ref db, .int sta, .int nx, .int (nI sp), .int (nI cl2), .int (nI np), .ref dc, .ref dd, .ref de, .int (nI ww), .ref df, .ref dg, .ref dh])), (dc, .inl (cI, 300, .inl go))] H := hP
        have hD : va_D A [(md, .inr (5, [.int ((1 : Int32)), .int (nI n), .ref d1, .ref d2, .ref d3, .ref d4, .int (nI wt), .int isS, .int (nI nr), .int (nI ns), .ref d5, .ref d6, .ref d7, .ref d8, .ref d9, .ref da, .ref db, .int sta, .int nx, .int (nI sp), .int (nI cl2), .int (nI np), .ref dc, .ref dd, .ref de, .int (nI ww), .ref df, .ref dg, .ref dh])), (dc, .inl (cI, 300, .inl go))] := hD
        refine lv_aload_n hx hb d_Mod_output_35 rfl (lv_at hl 0 rfl) ?_
        refine va_get (D := (dC, dI)) (ci := 5) (v := .int ((1 : Int32))) (C := R_Mod) (T := T_Mod) (N := 29) hx hb ht i_Mod hown hK hP 0 rfl rfl 0 (by decide) (ht _ mw_606) (fun _ h9 => h9) rfl d_Mod_output_36 ?_
        refine lv_if_ne (tgt := 51) hx hb d_Mod_output_39 (by decide) (fun _ => ?_) (fun z => absurd z (by decide))
        refine lv_iconst (v := 0) hx hb d_Mod_output_51 (by decide) ?_
        refine sm_ri (v := (0 : Int32)) (ws := [(md, .inr (5, [.int ((1 : Int32)), .int (nI n), .ref d1, .ref d2, .ref d3, .ref d4, .int (nI wt), .int isS, .int (nI nr), .int (nI ns), .ref d5, .ref d6, .ref d7, .ref d8, .ref d9, .ref da, .ref db, .int sta, .int nx, .int (nI sp), .int (nI cl2), .int (nI np), .ref dc, .ref dd, .ref de, .int (nI ww), .ref df, .ref dg, .ref dh])), (dc, .inl (cI, 300, .inl go))]) hx hb hr hlocks hK (hP.sub [0, 1] rfl) (hD.sub [0, 1] (by decide) rfl) hS ?_ d_Mod_output_52
        exact Or.inr ⟨fun z => (((out_in hnp).mp z.2).2.1 c_17), rfl, rfl⟩
      · skip
        refine lv_iload_n hx hb d_Mod_output_20 rfl (lv_at hl 1 rfl) ?_
        refine lv_sipush (v := 300) hx hb d_Mod_output_21 (by decide) ?_
        refine lv_icmp_ge (tgt := 31) hx hb d_Mod_output_24 (by decide) (fun c_24 => ?_) (fun c_24 => ?_)
        · skip
          refine lv_iconst (v := 1) hx hb d_Mod_output_31 (by decide) ?_
          refine va_put (D := (dC, dI)) (ci := 5) (v := .int ((1 : Int32))) (ty := .int) (C := R_Mod) (T := T_Mod) (N := 29) hx hb ht i_Mod t_Mod t_Mod_ok n_Mod hown hK hP hD hS 0 rfl rfl 0 (by decide) (ht _ mw_606) (fun _ h9 => h9) rfl (by decide +kernel) rfl rfl (Nat.le_of_ble_eq_true rfl) d_Mod_output_32 (fun H locs hP hD hS => ?_)
          have hP : va_P (dC, dI) smC [(md, .inr (5, [.int ((1 : Int32)), .int (nI n), .ref d1, .ref d2, .ref d3, .ref d4, .int (nI wt), .int isS, .int (nI nr), .int (nI ns), .ref d5, .ref d6, .ref d7, .ref d8, .ref d9, .ref da, .ref db, .int sta, .int nx, .int (nI sp), .int (nI cl2), .int (nI np), .ref dc, .ref dd, .ref de, .int (nI ww), .ref df, .ref dg, .ref dh])), (dc, .inl (cI, 300, .inl go))] H := hP
          have hD : va_D A [(md, .inr (5, [.int ((1 : Int32)), .int (nI n), .ref d1, .ref d2, .ref d3, .ref d4, .int (nI wt), .int isS, .int (nI nr), .int (nI ns), .ref d5, .ref d6, .ref d7, .ref d8, .ref d9, .ref da, .ref db, .int sta, .int nx, .int (nI sp), .int (nI cl2), .int (nI np), .ref dc, .ref dd, .ref de, .int (nI ww), .ref df, .ref dg, .ref dh])), (dc, .inl (cI, 300, .inl go))] := hD
          refine lv_aload_n hx hb d_Mod_output_35 rfl (lv_at hl 0 rfl) ?_
          refine va_get (D := (dC, dI)) (ci := 5) (v := .int ((1 : Int32))) (C := R_Mod) (T := T_Mod) (N := 29) hx hb ht i_Mod hown hK hP 0 rfl rfl 0 (by decide) (ht _ mw_606) (fun _ h9 => h9) rfl d_Mod_output_36 ?_
          refine lv_if_ne (tgt := 51) hx hb d_Mod_output_39 (by decide) (fun _ => ?_) (fun z => absurd z (by decide))
          refine lv_iconst (v := 0) hx hb d_Mod_output_51 (by decide) ?_
          refine sm_ri (v := (0 : Int32)) (ws := [(md, .inr (5, [.int ((1 : Int32)), .int (nI n), .ref d1, .ref d2, .ref d3, .ref d4, .int (nI wt), .int isS, .int (nI nr), .int (nI ns), .ref d5, .ref d6, .ref d7, .ref d8, .ref d9, .ref da, .ref db, .int sta, .int nx, .int (nI sp), .int (nI cl2), .int (nI np), .ref dc, .ref dd, .ref de, .int (nI ww), .ref df, .ref dg, .ref dh])), (dc, .inl (cI, 300, .inl go))]) hx hb hr hlocks hK (hP.sub [0, 1] rfl) (hD.sub [0, 1] (by decide) rfl) hS ?_ d_Mod_output_52
          exact Or.inr ⟨fun z => (((out_in hnp).mp z.2).2.2 c_24), rfl, rfl⟩
        · skip
          refine lv_iconst (v := 0) hx hb d_Mod_output_27 (by decide) ?_
          refine lv_goto (tgt := 32) hx hb d_Mod_output_28 (by decide) ?_
          refine va_put (D := (dC, dI)) (ci := 5) (v := .int ((0 : Int32))) (ty := .int) (C := R_Mod) (T := T_Mod) (N := 29) hx hb ht i_Mod t_Mod t_Mod_ok n_Mod hown hK hP hD hS 0 rfl rfl 0 (by decide) (ht _ mw_606) (fun _ h9 => h9) rfl (by decide +kernel) rfl rfl (Nat.le_of_ble_eq_true rfl) d_Mod_output_32 (fun H locs hP hD hS => ?_)
          have hP : va_P (dC, dI) smC [(md, .inr (5, [.int ((0 : Int32)), .int (nI n), .ref d1, .ref d2, .ref d3, .ref d4, .int (nI wt), .int isS, .int (nI nr), .int (nI ns), .ref d5, .ref d6, .ref d7, .ref d8, .ref d9, .ref da, .ref db, .int sta, .int nx, .int (nI sp), .int (nI cl2), .int (nI np), .ref dc, .ref dd, .ref de, .int (nI ww), .ref df, .ref dg, .ref dh])), (dc, .inl (cI, 300, .inl go))] H := hP
          have hD : va_D A [(md, .inr (5, [.int ((0 : Int32)), .int (nI n), .ref d1, .ref d2, .ref d3, .ref d4, .int (nI wt), .int isS, .int (nI nr), .int (nI ns), .ref d5, .ref d6, .ref d7, .ref d8, .ref d9, .ref da, .ref db, .int sta, .int nx, .int (nI sp), .int (nI cl2), .int (nI np), .ref dc, .ref dd, .ref de, .int (nI ww), .ref df, .ref dg, .ref dh])), (dc, .inl (cI, 300, .inl go))] := hD
          refine lv_aload_n hx hb d_Mod_output_35 rfl (lv_at hl 0 rfl) ?_
          refine va_get (D := (dC, dI)) (ci := 5) (v := .int ((0 : Int32))) (C := R_Mod) (T := T_Mod) (N := 29) hx hb ht i_Mod hown hK hP 0 rfl rfl 0 (by decide) (ht _ mw_606) (fun _ h9 => h9) rfl d_Mod_output_36 ?_
          refine lv_if_ne (tgt := 51) hx hb d_Mod_output_39 (by decide) (fun z => absurd z (by decide)) (fun _ => ?_)
          refine lv_aload_n hx hb d_Mod_output_42 rfl (lv_at hl 0 rfl) ?_
          refine va_get (D := (dC, dI)) (ci := 5) (v := .ref dc) (C := R_Mod) (T := T_Mod) (N := 29) hx hb ht i_Mod hown hK hP 0 rfl rfl 22 (by decide) (ht _ mw_628) (fun _ h9 => h9) rfl d_Mod_output_43 ?_
          refine lv_iload_n hx hb d_Mod_output_46 rfl (lv_at hl 1 rfl) ?_
          refine sm_iald (j := k.toNatClampNeg) hx hb hK hP 1 0 rfl rfl (sm_inB (inB_mono ((out_in hnp).mpr ⟨c_9, c_17, c_24⟩) (Nat.min_le_right _ _))) rfl d_Mod_output_47 ?_
          refine lv_goto (tgt := 52) hx hb d_Mod_output_48 (by decide) ?_
          refine sm_ri (v := go k.toNatClampNeg) (ws := [(md, .inr (5, [.int ((0 : Int32)), .int (nI n), .ref d1, .ref d2, .ref d3, .ref d4, .int (nI wt), .int isS, .int (nI nr), .int (nI ns), .ref d5, .ref d6, .ref d7, .ref d8, .ref d9, .ref da, .ref db, .int sta, .int nx, .int (nI sp), .int (nI cl2), .int (nI np), .ref dc, .ref dd, .ref de, .int (nI ww), .ref df, .ref dg, .ref dh])), (dc, .inl (cI, 300, .inl go))]) hx hb hr hlocks hK (hP.sub [0, 1] rfl) (hD.sub [0, 1] (by decide) rfl) hS ?_ d_Mod_output_52
          exact Or.inl ⟨⟨c_5, (out_in hnp).mpr ⟨c_9, c_17, c_24⟩⟩, rfl, rfl⟩
abbrev y_Mod_total : MethodName := ⟨"ScanMillModel", "total", "(I)I"⟩
theorem d_Mod_total_0 : decode prog_7_method_32_code 0 = .ok (.aload_n 0, 1) := by decide +kernel
theorem d_Mod_total_1 : decode prog_7_method_32_code 1 = .ok (.iconst 0, 1) := by decide +kernel
theorem d_Mod_total_2 : decode prog_7_method_32_code 2 = .ok (.putfield 66, 3) := by decide +kernel
theorem d_Mod_total_5 : decode prog_7_method_32_code 5 = .ok (.aload_n 0, 1) := by decide +kernel
theorem d_Mod_total_6 : decode prog_7_method_32_code 6 = .ok (.getfield 77, 3) := by decide +kernel
theorem d_Mod_total_9 : decode prog_7_method_32_code 9 = .ok (.ifCond .eq 7, 3) := by decide +kernel
theorem d_Mod_total_16 : decode prog_7_method_32_code 16 = .ok (.iconst 0, 1) := by decide +kernel
theorem d_Mod_total_17 : decode prog_7_method_32_code 17 = .ok (.istore_n 2, 1) := by decide +kernel
theorem d_Mod_total_18 : decode prog_7_method_32_code 18 = .ok (.iload_n 1, 1) := by decide +kernel
theorem d_Mod_total_19 : decode prog_7_method_32_code 19 = .ok (.tableswitch 199 0 8 #[49, 54, 70, 86, 142, 155, 168, 181, 194], 49) := by decide +kernel
theorem d_Mod_total_68 : decode prog_7_method_32_code 68 = .ok (.aload_n 0, 1) := by decide +kernel
theorem d_Mod_total_69 : decode prog_7_method_32_code 69 = .ok (.getfield 80, 3) := by decide +kernel
theorem d_Mod_total_72 : decode prog_7_method_32_code 72 = .ok (.ireturn, 1) := by decide +kernel
theorem d_Mod_total_73 : decode prog_7_method_32_code 73 = .ok (.aload_n 0, 1) := by decide +kernel
theorem d_Mod_total_74 : decode prog_7_method_32_code 74 = .ok (.getfield 73, 3) := by decide +kernel
theorem d_Mod_total_77 : decode prog_7_method_32_code 77 = .ok (.ifCond .eq 10, 3) := by decide +kernel
theorem d_Mod_total_87 : decode prog_7_method_32_code 87 = .ok (.iconst 0, 1) := by decide +kernel
theorem d_Mod_total_88 : decode prog_7_method_32_code 88 = .ok (.ireturn, 1) := by decide +kernel
theorem d_Mod_total_80 : decode prog_7_method_32_code 80 = .ok (.aload_n 0, 1) := by decide +kernel
theorem d_Mod_total_81 : decode prog_7_method_32_code 81 = .ok (.getfield 111, 3) := by decide +kernel
theorem d_Mod_total_84 : decode prog_7_method_32_code 84 = .ok (.goto 4, 3) := by decide +kernel
theorem d_Mod_total_89 : decode prog_7_method_32_code 89 = .ok (.aload_n 0, 1) := by decide +kernel
theorem d_Mod_total_90 : decode prog_7_method_32_code 90 = .ok (.getfield 73, 3) := by decide +kernel
theorem d_Mod_total_93 : decode prog_7_method_32_code 93 = .ok (.ifCond .eq 10, 3) := by decide +kernel
theorem d_Mod_total_103 : decode prog_7_method_32_code 103 = .ok (.iconst 0, 1) := by decide +kernel
theorem d_Mod_total_104 : decode prog_7_method_32_code 104 = .ok (.ireturn, 1) := by decide +kernel
theorem d_Mod_total_96 : decode prog_7_method_32_code 96 = .ok (.aload_n 0, 1) := by decide +kernel
theorem d_Mod_total_97 : decode prog_7_method_32_code 97 = .ok (.getfield 114, 3) := by decide +kernel
theorem d_Mod_total_100 : decode prog_7_method_32_code 100 = .ok (.goto 4, 3) := by decide +kernel
theorem d_Mod_total_105 : decode prog_7_method_32_code 105 = .ok (.iconst 0, 1) := by decide +kernel
theorem d_Mod_total_106 : decode prog_7_method_32_code 106 = .ok (.istore_n 3, 1) := by decide +kernel
theorem d_Mod_total_107 : decode prog_7_method_32_code 107 = .ok (.iconst 0, 1) := by decide +kernel
theorem d_Mod_total_108 : decode prog_7_method_32_code 108 = .ok (.istore 4, 2) := by decide +kernel
theorem d_Mod_total_110 : decode prog_7_method_32_code 110 = .ok (.iload 4, 2) := by decide +kernel
theorem d_Mod_total_112 : decode prog_7_method_32_code 112 = .ok (.bipush 24, 2) := by decide +kernel
theorem d_Mod_total_114 : decode prog_7_method_32_code 114 = .ok (.if_icmp .ge 45, 3) := by decide +kernel
theorem d_Mod_total_159 : decode prog_7_method_32_code 159 = .ok (.iload_n 3, 1) := by decide +kernel
theorem d_Mod_total_160 : decode prog_7_method_32_code 160 = .ok (.ireturn, 1) := by decide +kernel
theorem d_Mod_total_117 : decode prog_7_method_32_code 117 = .ok (.aload_n 0, 1) := by decide +kernel
theorem d_Mod_total_118 : decode prog_7_method_32_code 118 = .ok (.getfield 73, 3) := by decide +kernel
theorem d_Mod_total_121 : decode prog_7_method_32_code 121 = .ok (.ifCond .eq 38, 3) := by decide +kernel
theorem d_Mod_total_124 : decode prog_7_method_32_code 124 = .ok (.iload_n 3, 1) := by decide +kernel
theorem d_Mod_total_125 : decode prog_7_method_32_code 125 = .ok (.aload_n 0, 1) := by decide +kernel
theorem d_Mod_total_126 : decode prog_7_method_32_code 126 = .ok (.getfield 32, 3) := by decide +kernel
theorem d_Mod_total_129 : decode prog_7_method_32_code 129 = .ok (.iload 4, 2) := by decide +kernel
theorem d_Mod_total_131 : decode prog_7_method_32_code 131 = .ok (.baload, 1) := by decide +kernel
theorem d_Mod_total_132 : decode prog_7_method_32_code 132 = .ok (.ifCond .eq 18, 3) := by decide +kernel
theorem d_Mod_total_150 : decode prog_7_method_32_code 150 = .ok (.iconst 0, 1) := by decide +kernel
theorem d_Mod_total_151 : decode prog_7_method_32_code 151 = .ok (.iadd, 1) := by decide +kernel
theorem d_Mod_total_152 : decode prog_7_method_32_code 152 = .ok (.istore_n 3, 1) := by decide +kernel
theorem d_Mod_total_153 : decode prog_7_method_32_code 153 = .ok (.iinc 4 1, 3) := by decide +kernel
theorem d_Mod_total_156 : decode prog_7_method_32_code 156 = .ok (.goto (-46), 3) := by decide +kernel
theorem d_Mod_total_135 : decode prog_7_method_32_code 135 = .ok (.aload_n 0, 1) := by decide +kernel
theorem d_Mod_total_136 : decode prog_7_method_32_code 136 = .ok (.getfield 39, 3) := by decide +kernel
theorem d_Mod_total_139 : decode prog_7_method_32_code 139 = .ok (.iload 4, 2) := by decide +kernel
theorem d_Mod_total_141 : decode prog_7_method_32_code 141 = .ok (.iaload, 1) := by decide +kernel
theorem d_Mod_total_142 : decode prog_7_method_32_code 142 = .ok (.iconst (-1), 1) := by decide +kernel
theorem d_Mod_total_143 : decode prog_7_method_32_code 143 = .ok (.if_icmp .eq 7, 3) := by decide +kernel
theorem d_Mod_total_146 : decode prog_7_method_32_code 146 = .ok (.iconst 1, 1) := by decide +kernel
theorem d_Mod_total_147 : decode prog_7_method_32_code 147 = .ok (.goto 4, 3) := by decide +kernel
theorem d_Mod_total_161 : decode prog_7_method_32_code 161 = .ok (.iload_n 2, 1) := by decide +kernel
theorem d_Mod_total_162 : decode prog_7_method_32_code 162 = .ok (.ifCond .eq 10, 3) := by decide +kernel
theorem d_Mod_total_172 : decode prog_7_method_32_code 172 = .ok (.iconst 0, 1) := by decide +kernel
theorem d_Mod_total_173 : decode prog_7_method_32_code 173 = .ok (.ireturn, 1) := by decide +kernel
theorem d_Mod_total_174 : decode prog_7_method_32_code 174 = .ok (.iload_n 2, 1) := by decide +kernel
theorem d_Mod_total_175 : decode prog_7_method_32_code 175 = .ok (.ifCond .eq 10, 3) := by decide +kernel
theorem d_Mod_total_185 : decode prog_7_method_32_code 185 = .ok (.iconst 0, 1) := by decide +kernel
theorem d_Mod_total_186 : decode prog_7_method_32_code 186 = .ok (.ireturn, 1) := by decide +kernel
theorem d_Mod_total_187 : decode prog_7_method_32_code 187 = .ok (.iload_n 2, 1) := by decide +kernel
theorem d_Mod_total_188 : decode prog_7_method_32_code 188 = .ok (.ifCond .eq 10, 3) := by decide +kernel
theorem d_Mod_total_198 : decode prog_7_method_32_code 198 = .ok (.iconst 0, 1) := by decide +kernel
theorem d_Mod_total_199 : decode prog_7_method_32_code 199 = .ok (.ireturn, 1) := by decide +kernel
theorem d_Mod_total_200 : decode prog_7_method_32_code 200 = .ok (.iload_n 2, 1) := by decide +kernel
theorem d_Mod_total_201 : decode prog_7_method_32_code 201 = .ok (.ifCond .eq 10, 3) := by decide +kernel
theorem d_Mod_total_211 : decode prog_7_method_32_code 211 = .ok (.iconst 0, 1) := by decide +kernel
theorem d_Mod_total_212 : decode prog_7_method_32_code 212 = .ok (.ireturn, 1) := by decide +kernel
theorem d_Mod_total_213 : decode prog_7_method_32_code 213 = .ok (.aload_n 0, 1) := by decide +kernel
theorem d_Mod_total_214 : decode prog_7_method_32_code 214 = .ok (.getfield 77, 3) := by decide +kernel
theorem d_Mod_total_217 : decode prog_7_method_32_code 217 = .ok (.ireturn, 1) := by decide +kernel
theorem d_Mod_total_218 : decode prog_7_method_32_code 218 = .ok (.iconst (-1), 1) := by decide +kernel
theorem d_Mod_total_219 : decode prog_7_method_32_code 219 = .ok (.ireturn, 1) := by decide +kernel
theorem d_Mod_total_12 : decode prog_7_method_32_code 12 = .ok (.iconst 1, 1) := by decide +kernel
theorem d_Mod_total_13 : decode prog_7_method_32_code 13 = .ok (.goto 4, 3) := by decide +kernel
theorem d_Mod_total_165 : decode prog_7_method_32_code 165 = .ok (.aload_n 0, 1) := by decide +kernel
theorem d_Mod_total_166 : decode prog_7_method_32_code 166 = .ok (.getfield 136, 3) := by decide +kernel
theorem d_Mod_total_169 : decode prog_7_method_32_code 169 = .ok (.goto 4, 3) := by decide +kernel
theorem d_Mod_total_178 : decode prog_7_method_32_code 178 = .ok (.aload_n 0, 1) := by decide +kernel
theorem d_Mod_total_179 : decode prog_7_method_32_code 179 = .ok (.getfield 133, 3) := by decide +kernel
theorem d_Mod_total_182 : decode prog_7_method_32_code 182 = .ok (.goto 4, 3) := by decide +kernel
theorem d_Mod_total_191 : decode prog_7_method_32_code 191 = .ok (.aload_n 0, 1) := by decide +kernel
theorem d_Mod_total_192 : decode prog_7_method_32_code 192 = .ok (.getfield 139, 3) := by decide +kernel
theorem d_Mod_total_195 : decode prog_7_method_32_code 195 = .ok (.goto 4, 3) := by decide +kernel
theorem d_Mod_total_204 : decode prog_7_method_32_code 204 = .ok (.aload_n 0, 1) := by decide +kernel
theorem d_Mod_total_205 : decode prog_7_method_32_code 205 = .ok (.getfield 142, 3) := by decide +kernel
theorem d_Mod_total_208 : decode prog_7_method_32_code 208 = .ok (.goto 4, 3) := by decide +kernel
set_option maxRecDepth 100000 in
set_option maxHeartbeats 4000000 in
theorem c_Mod_total {l : Launch} {dC : Nat → ClassId} {dI : Nat → Nat → Nat} {cI cZ : ClassId} {md d1 d2 d3 d4 d5 d6 d7 d8 d9 da db dc dd de df dg dh n wt nr ns sp cl2 np ww : Nat} {th isS sta nx : Int32} {mi mr : Nat → Int32} {what : Int32}  : sm_I l y_Mod_total prog_7_method_32_code 5 (some .int) (rmF 0 0) (dC, dI) smC [(cI, .int), (cZ, .boolean)] [.ref md, .int what] [(md, .inr (5, [.int th, .int (nI n), .ref d1, .ref d2, .ref d3, .ref d4, .int (nI wt), .int isS, .int (nI nr), .int (nI ns), .ref d5, .ref d6, .ref d7, .ref d8, .ref d9, .ref da, .ref db, .int sta, .int nx, .int (nI sp), .int (nI cl2), .int (nI np), .ref dc, .ref dd, .ref de, .int (nI ww), .ref df, .ref dg, .ref dh])), (d7, .inl (cZ, 24, .inl mi)), (d9, .inl (cI, 24, .inl mr))] (fun q w2 => q = (totM what isS sta n nr ns (cM isS mi mr 24 0 0) sp cl2 np nx) ∧ w2 = [(md, .inr (5, [.int ((0 : Int32)), .int (nI n), .ref d1, .ref d2, .ref d3, .ref d4, .int (nI wt), .int isS, .int (nI nr), .int (nI ns), .ref d5, .ref d6, .ref d7, .ref d8, .ref d9, .ref da, .ref db, .int sta, .int nx, .int (nI sp), .int (nI cl2), .int (nI np), .ref dc, .ref dd, .ref de, .int (nI ww), .ref df, .ref dg, .ref dh])), (d7, .inl (cZ, 24, .inl mi)), (d9, .inl (cI, 24, .inl mr))]) := by
  refine sm_I.mk (by decide) (Nat.le_of_ble_eq_true rfl) ?_
  intro p e s m below meth c A H locs ls hx hb hr ht hown hlocks hml hnm hP hK hD hA hS hN hl
  have hl : lv_has ls 5 [(0, .ref md), (1, .int what)] := hl
  refine lv_aload_n hx hb d_Mod_total_0 rfl (lv_at hl 0 rfl) ?_
  refine lv_iconst (v := 0) hx hb d_Mod_total_1 (by decide) ?_
  refine va_put (D := (dC, dI)) (ci := 5) (v := .int ((0 : Int32))) (ty := .int) (C := R_Mod) (T := T_Mod) (N := 29) hx hb ht i_Mod t_Mod t_Mod_ok n_Mod hown hK hP hD hS 0 rfl rfl 0 (by decide) (ht _ mw_606) (fun _ h9 => h9) rfl (by decide +kernel) rfl rfl (Nat.le_of_ble_eq_true rfl) d_Mod_total_2 (fun H locs hP hD hS => ?_)
  have hP : va_P (dC, dI) smC [(md, .inr (5, [.int ((0 : Int32)), .int (nI n), .ref d1, .ref d2, .ref d3, .ref d4, .int (nI wt), .int isS, .int (nI nr), .int (nI ns), .ref d5, .ref d6, .ref d7, .ref d8, .ref d9, .ref da, .ref db, .int sta, .int nx, .int (nI sp), .int (nI cl2), .int (nI np), .ref dc, .ref dd, .ref de, .int (nI ww), .ref df, .ref dg, .ref dh])), (d7, .inl (cZ, 24, .inl mi)), (d9, .inl (cI, 24, .inl mr))] H := hP
  have hD : va_D A [(md, .inr (5, [.int ((0 : Int32)), .int (nI n), .ref d1, .ref d2, .ref d3, .ref d4, .int (nI wt), .int isS, .int (nI nr), .int (nI ns), .ref d5, .ref d6, .ref d7, .ref d8, .ref d9, .ref da, .ref db, .int sta, .int nx, .int (nI sp), .int (nI cl2), .int (nI np), .ref dc, .ref dd, .ref de, .int (nI ww), .ref df, .ref dg, .ref dh])), (d7, .inl (cZ, 24, .inl mi)), (d9, .inl (cI, 24, .inl mr))] := hD
  refine lv_aload_n hx hb d_Mod_total_5 rfl (lv_at hl 0 rfl) ?_
  refine va_get (D := (dC, dI)) (ci := 5) (v := .int sta) (C := R_Mod) (T := T_Mod) (N := 29) hx hb ht i_Mod hown hK hP 0 rfl rfl 17 (by decide) (ht _ mw_623) (fun _ h9 => h9) rfl d_Mod_total_6 ?_
  refine lv_if_eq (tgt := 16) hx hb d_Mod_total_9 (by decide) (fun c_9 => ?_) (fun c_9 => ?_)
  · skip
    refine lv_iconst (v := 0) hx hb d_Mod_total_16 (by decide) ?_
    refine lv_istore_n (lv' := [(2, .int ((0 : Int32))), (0, .ref md), (1, .int what)]) hx hb d_Mod_total_17 rfl hl (by decide) rfl (fun ls hl => ?_)
    refine lv_iload_n hx hb d_Mod_total_18 rfl (lv_at hl 2 rfl) ?_
    by_cases g_19_68 : what = 0
    · skip
      refine sm_tab (tgt := 68) hx hb d_Mod_total_19 (by rw [g_19_68]; decide) ?_
      refine lv_aload_n hx hb d_Mod_total_68 rfl (lv_at hl 1 rfl) ?_
      refine va_get (D := (dC, dI)) (ci := 5) (v := .int (nI n)) (C := R_Mod) (T := T_Mod) (N := 29) hx hb ht i_Mod hown hK hP 0 rfl rfl 1 (by decide) (ht _ mw_607) (fun _ h9 => h9) rfl d_Mod_total_69 ?_
      refine sm_ri (v := nI n) (ws := [(md, .inr (5, [.int ((0 : Int32)), .int (nI n), .ref d1, .ref d2, .ref d3, .ref d4, .int (nI wt), .int isS, .int (nI nr), .int (nI ns), .ref d5, .ref d6, .ref d7, .ref d8, .ref d9, .ref da, .ref db, .int sta, .int nx, .int (nI sp), .int (nI cl2), .int (nI np), .ref dc, .ref dd, .ref de, .int (nI ww), .ref df, .ref dg, .ref dh])), (d7, .inl (cZ, 24, .inl mi)), (d9, .inl (cI, 24, .inl mr))]) hx hb hr hlocks hK (hP.sub [0, 1, 2] rfl) (hD.sub [0, 1, 2] (by decide) rfl) hS ?_ d_Mod_total_72
      exact ⟨by simp only [totM, if_pos g_19_68], rfl⟩
    by_cases g_19_73 : what = 1
    · skip
      refine sm_tab (tgt := 73) hx hb d_Mod_total_19 (by rw [g_19_73]; decide) ?_
      refine lv_aload_n hx hb d_Mod_total_73 rfl (lv_at hl 1 rfl) ?_
      refine va_get (D := (dC, dI)) (ci := 5) (v := .int isS) (C := R_Mod) (T := T_Mod) (N := 29) hx hb ht i_Mod hown hK hP 0 rfl rfl 7 (by decide) (ht _ mw_613) (fun _ h9 => h9) rfl d_Mod_total_74 ?_
      refine lv_if_eq (tgt := 87) hx hb d_Mod_total_77 (by decide) (fun c_77 => ?_) (fun c_77 => ?_)
      · skip
        refine lv_iconst (v := 0) hx hb d_Mod_total_87 (by decide) ?_
        refine sm_ri (v := (0 : Int32)) (ws := [(md, .inr (5, [.int ((0 : Int32)), .int (nI n), .ref d1, .ref d2, .ref d3, .ref d4, .int (nI wt), .int isS, .int (nI nr), .int (nI ns), .ref d5, .ref d6, .ref d7, .ref d8, .ref d9, .ref da, .ref db, .int sta, .int nx, .int (nI sp), .int (nI cl2), .int (nI np), .ref dc, .ref dd, .ref de, .int (nI ww), .ref df, .ref dg, .ref dh])), (d7, .inl (cZ, 24, .inl mi)), (d9, .inl (cI, 24, .inl mr))]) hx hb hr hlocks hK (hP.sub [0, 1, 2] rfl) (hD.sub [0, 1, 2] (by decide) rfl) hS ?_ d_Mod_total_88
        exact ⟨by simp only [totM, if_neg g_19_68, if_pos g_19_73, if_pos c_77], rfl⟩
      · skip
        refine lv_aload_n hx hb d_Mod_total_80 rfl (lv_at hl 1 rfl) ?_
        refine va_get (D := (dC, dI)) (ci := 5) (v := .int (nI nr)) (C := R_Mod) (T := T_Mod) (N := 29) hx hb ht i_Mod hown hK hP 0 rfl rfl 8 (by decide) (ht _ mw_614) (fun _ h9 => h9) rfl d_Mod_total_81 ?_
        refine lv_goto (tgt := 88) hx hb d_Mod_total_84 (by decide) ?_
        refine sm_ri (v := nI nr) (ws := [(md, .inr (5, [.int ((0 : Int32)), .int (nI n), .ref d1, .ref d2, .ref d3, .ref d4, .int (nI wt), .int isS, .int (nI nr), .int (nI ns), .ref d5, .ref d6, .ref d7, .ref d8, .ref d9, .ref da, .ref db, .int sta, .int nx, .int (nI sp), .int (nI cl2), .int (nI np), .ref dc, .ref dd, .ref de, .int (nI ww), .ref df, .ref dg, .ref dh])), (d7, .inl (cZ, 24, .inl mi)), (d9, .inl (cI, 24, .inl mr))]) hx hb hr hlocks hK (hP.sub [0, 1, 2] rfl) (hD.sub [0, 1, 2] (by decide) rfl) hS ?_ d_Mod_total_88
        exact ⟨by simp only [totM, if_neg g_19_68, if_pos g_19_73, if_neg c_77], rfl⟩
    by_cases g_19_89 : what = 2
    · skip
      refine sm_tab (tgt := 89) hx hb d_Mod_total_19 (by rw [g_19_89]; decide) ?_
      refine lv_aload_n hx hb d_Mod_total_89 rfl (lv_at hl 1 rfl) ?_
      refine va_get (D := (dC, dI)) (ci := 5) (v := .int isS) (C := R_Mod) (T := T_Mod) (N := 29) hx hb ht i_Mod hown hK hP 0 rfl rfl 7 (by decide) (ht _ mw_613) (fun _ h9 => h9) rfl d_Mod_total_90 ?_
      refine lv_if_eq (tgt := 103) hx hb d_Mod_total_93 (by decide) (fun c_93 => ?_) (fun c_93 => ?_)
      · skip
        refine lv_iconst (v := 0) hx hb d_Mod_total_103 (by decide) ?_
        refine sm_ri (v := (0 : Int32)) (ws := [(md, .inr (5, [.int ((0 : Int32)), .int (nI n), .ref d1, .ref d2, .ref d3, .ref d4, .int (nI wt), .int isS, .int (nI nr), .int (nI ns), .ref d5, .ref d6, .ref d7, .ref d8, .ref d9, .ref da, .ref db, .int sta, .int nx, .int (nI sp), .int (nI cl2), .int (nI np), .ref dc, .ref dd, .ref de, .int (nI ww), .ref df, .ref dg, .ref dh])), (d7, .inl (cZ, 24, .inl mi)), (d9, .inl (cI, 24, .inl mr))]) hx hb hr hlocks hK (hP.sub [0, 1, 2] rfl) (hD.sub [0, 1, 2] (by decide) rfl) hS ?_ d_Mod_total_104
        exact ⟨by simp only [totM, if_neg g_19_68, if_neg g_19_73, if_pos g_19_89, if_pos c_93], rfl⟩
      · skip
        refine lv_aload_n hx hb d_Mod_total_96 rfl (lv_at hl 1 rfl) ?_
        refine va_get (D := (dC, dI)) (ci := 5) (v := .int (nI ns)) (C := R_Mod) (T := T_Mod) (N := 29) hx hb ht i_Mod hown hK hP 0 rfl rfl 9 (by decide) (ht _ mw_615) (fun _ h9 => h9) rfl d_Mod_total_97 ?_
        refine lv_goto (tgt := 104) hx hb d_Mod_total_100 (by decide) ?_
        refine sm_ri (v := nI ns) (ws := [(md, .inr (5, [.int ((0 : Int32)), .int (nI n), .ref d1, .ref d2, .ref d3, .ref d4, .int (nI wt), .int isS, .int (nI nr), .int (nI ns), .ref d5, .ref d6, .ref d7, .ref d8, .ref d9, .ref da, .ref db, .int sta, .int nx, .int (nI sp), .int (nI cl2), .int (nI np), .ref dc, .ref dd, .ref de, .int (nI ww), .ref df, .ref dg, .ref dh])), (d7, .inl (cZ, 24, .inl mi)), (d9, .inl (cI, 24, .inl mr))]) hx hb hr hlocks hK (hP.sub [0, 1, 2] rfl) (hD.sub [0, 1, 2] (by decide) rfl) hS ?_ d_Mod_total_104
        exact ⟨by simp only [totM, if_neg g_19_68, if_neg g_19_73, if_pos g_19_89, if_neg c_93], rfl⟩
    by_cases g_19_105 : what = 3
    · skip
      refine sm_tab (tgt := 105) hx hb d_Mod_total_19 (by rw [g_19_105]; decide) ?_
      refine lv_iconst (v := 0) hx hb d_Mod_total_105 (by decide) ?_
      refine lv_istore_n (lv' := [(3, .int ((0 : Int32))), (2, .int ((0 : Int32))), (0, .ref md), (1, .int what)]) hx hb d_Mod_total_106 rfl hl (by decide) rfl (fun ls hl => ?_)
      refine lv_iconst (v := 0) hx hb d_Mod_total_107 (by decide) ?_
      refine lv_istore (lv' := [(4, .int ((0 : Int32))), (3, .int ((0 : Int32))), (2, .int ((0 : Int32))), (0, .ref md), (1, .int what)]) hx hb d_Mod_total_108 hl (by decide) rfl (fun ls hl => ?_)
      have loop_110 : ∀ (N_110 : Nat) (q : Nat) (v : Nat) (c3 : Nat), (q + v = 24) → (cM isS mi mr q v c3 = cM isS mi mr 24 0 0) → q < N_110 → ∀ (H : Heap) (locs : List Loc), va_P (dC, dI) smC [(md, .inr (5, [.int ((0 : Int32)), .int (nI n), .ref d1, .ref d2, .ref d3, .ref d4, .int (nI wt), .int isS, .int (nI nr), .int (nI ns), .ref d5, .ref d6, .ref d7, .ref d8, .ref d9, .ref da, .ref db, .int sta, .int nx, .int (nI sp), .int (nI cl2), .int (nI np), .ref dc, .ref dd, .ref de, .int (nI ww), .ref df, .ref dg, .ref dh])), (d7, .inl (cZ, 24, .inl mi)), (d9, .inl (cI, 24, .inl mr))] H → va_D A [(md, .inr (5, [.int ((0 : Int32)), .int (nI n), .ref d1, .ref d2, .ref d3, .ref d4, .int (nI wt), .int isS, .int (nI nr), .int (nI ns), .ref d5, .ref d6, .ref d7, .ref d8, .ref d9, .ref da, .ref db, .int sta, .int nx, .int (nI sp), .int (nI cl2), .int (nI np), .ref dc, .ref dd, .ref de, .int (nI ww), .ref df, .ref dg, .ref dh])), (d7, .inl (cZ, 24, .inl mi)), (d9, .inl (cI, 24, .inl mr))] → va_S A s.heap H locs → ∀ ls : Array Slot, lv_has ls 5 [(0, .ref md), (3, .int (nI c3)), (4, .int (nI v))] → W p l e (rmF 0 0) s m ([.ref md, .int what] : List Value).toArray below meth c H locs 0 0 (MQ below (va_Qi (fun q w2 => q = (totM what isS sta n nr ns (cM isS mi mr 24 0 0) sp cl2 np nx) ∧ w2 = [(md, .inr (5, [.int ((0 : Int32)), .int (nI n), .ref d1, .ref d2, .ref d3, .ref d4, .int (nI wt), .int isS, .int (nI nr), .int (nI ns), .ref d5, .ref d6, .ref d7, .ref d8, .ref d9, .ref da, .ref db, .int sta, .int nx, .int (nI sp), .int (nI cl2), .int (nI np), .ref dc, .ref dd, .ref de, .int (nI ww), .ref df, .ref dg, .ref dh])), (d7, .inl (cZ, 24, .inl mi)), (d9, .inl (cI, 24, .inl mr))]) (sm_B (dC, dI) smC [(cI, .int), (cZ, .boolean)] A) A) ([.ref md, .int what] : List Value).toArray s 0 0 A) (F0 m 110 ls []) := by
        intro N_110
        induction N_110 with
        | zero => intro q v c3 _ _ z; exact absurd z (Nat.not_lt_zero _)
        | succ N_110 ih_110 =>
          intro q v c3 hqv hv m_110 H locs hP hD hS ls hl
          refine lv_iload hx hb d_Mod_total_110 (lv_at hl 2 rfl) ?_
          refine lv_bipush (v := 24) hx hb d_Mod_total_112 (by decide) ?_
          refine lv_icmp_ge (tgt := 159) hx hb d_Mod_total_114 (by decide) (fun c_114 => ?_) (fun c_114 => ?_)
          · skip
            have f_114 : 24 ≤ v := (nI_leI (a := 24) (b := v) (by first | omega | decide) (by first | omega | decide)).mp c_114
            obtain rfl : q = 0 := by omega
            have hce : c3 = cM isS mi mr 24 0 0 := hv
            refine lv_iload_n hx hb d_Mod_total_159 rfl (lv_at hl 1 rfl) ?_
            refine sm_ri (v := nI c3) (ws := [(md, .inr (5, [.int ((0 : Int32)), .int (nI n), .ref d1, .ref d2, .ref d3, .ref d4, .int (nI wt), .int isS, .int (nI nr), .int (nI ns), .ref d5, .ref d6, .ref d7, .ref d8, .ref d9, .ref da, .ref db, .int sta, .int nx, .int (nI sp), .int (nI cl2), .int (nI np), .ref dc, .ref dd, .ref de, .int (nI ww), .ref df, .ref dg, .ref dh])), (d7, .inl (cZ, 24, .inl mi)), (d9, .inl (cI, 24, .inl mr))]) hx hb hr hlocks hK (hP.sub [0, 1, 2] rfl) (hD.sub [0, 1, 2] (by decide) rfl) hS ?_ d_Mod_total_160
            exact ⟨by simp only [totM, if_neg g_19_68, if_neg g_19_73, if_neg g_19_89, if_pos g_19_105]; rw [hce], rfl⟩
          · skip
            have f_114 : ¬ 24 ≤ v := fun z => c_114 ((nI_leI (a := 24) (b := v) (by first | omega | decide) (by first | omega | decide)).mpr z)
            obtain ⟨q1, rfl⟩ : ∃ z, q = z + 1 := ⟨q - 1, by omega⟩
            refine lv_aload_n hx hb d_Mod_total_117 rfl (lv_at hl 0 rfl) ?_
            refine va_get (D := (dC, dI)) (ci := 5) (v := .int isS) (C := R_Mod) (T := T_Mod) (N := 29) hx hb ht i_Mod hown hK hP 0 rfl rfl 7 (by decide) (ht _ mw_613) (fun _ h9 => h9) rfl d_Mod_total_118 ?_
            refine lv_if_eq (tgt := 159) hx hb d_Mod_total_121 (by decide) (fun c_121 => ?_) (fun c_121 => ?_)
            · skip
              have hce : c3 = cM isS mi mr 24 0 0 := by rw [← hv, cM, if_pos c_121]
              refine lv_iload_n hx hb d_Mod_total_159 rfl (lv_at hl 1 rfl) ?_
              refine sm_ri (v := nI c3) (ws := [(md, .inr (5, [.int ((0 : Int32)), .int (nI n), .ref d1, .ref d2, .ref d3, .ref d4, .int (nI wt), .int isS, .int (nI nr), .int (nI ns), .ref d5, .ref d6, .ref d7, .ref d8, .ref d9, .ref da, .ref db, .int sta, .int nx, .int (nI sp), .int (nI cl2), .int (nI np), .ref dc, .ref dd, .ref de, .int (nI ww), .ref df, .ref dg, .ref dh])), (d7, .inl (cZ, 24, .inl mi)), (d9, .inl (cI, 24, .inl mr))]) hx hb hr hlocks hK (hP.sub [0, 1, 2] rfl) (hD.sub [0, 1, 2] (by decide) rfl) hS ?_ d_Mod_total_160
              exact ⟨by simp only [totM, if_neg g_19_68, if_neg g_19_73, if_neg g_19_89, if_pos g_19_105]; rw [hce], rfl⟩
            · skip
              refine lv_iload_n hx hb d_Mod_total_124 rfl (lv_at hl 1 rfl) ?_
              refine lv_aload_n hx hb d_Mod_total_125 rfl (lv_at hl 0 rfl) ?_
              refine va_get (D := (dC, dI)) (ci := 5) (v := .ref d7) (C := R_Mod) (T := T_Mod) (N := 29) hx hb ht i_Mod hown hK hP 0 rfl rfl 12 (by decide) (ht _ mw_618) (fun _ h9 => h9) rfl d_Mod_total_126 ?_
              refine lv_iload hx hb d_Mod_total_129 (lv_at hl 2 rfl) ?_
              refine sm_zald (j := v) hx hb hK hP 1 1 rfl rfl (vp_in_nI (by first | omega | assumption) (by first | decide | omega)) (nI_clamp (by first | omega | (have := sm_lt31; omega))) d_Mod_total_131 ?_
              refine lv_if_eq (tgt := 150) hx hb d_Mod_total_132 (by decide) (fun c_132 => ?_) (fun c_132 => ?_)
              · skip
                refine lv_iconst (v := 0) hx hb d_Mod_total_150 (by decide) ?_
                refine lv_iadd hx hb d_Mod_total_151 ?_
                refine sm_re (Int32.add_zero _) ?_
                refine lv_istore_n (lv' := [(3, .int (nI c3)), (0, .ref md), (4, .int (nI v))]) hx hb d_Mod_total_152 rfl hl (by decide) rfl (fun ls hl => ?_)
                refine lv_iinc (v := nI (v + 1)) (lv' := [(4, .int (nI (v + 1))), (3, .int (nI c3)), (0, .ref md)]) hx hb d_Mod_total_153 hl (k := 2) rfl (nI_add v 1) (by decide) rfl (fun ls hl => ?_)
                refine lv_goto (tgt := 110) hx hb d_Mod_total_156 (by decide) ?_
                exact ih_110 q1 (v + 1) c3 (by omega) (by rw [← hv, cM]; simp only [if_neg c_121, if_pos c_132]) (by omega) _ _ (hP.sub [0, 1, 2] rfl) (hD.sub [0, 1, 2] (by decide) rfl) hS _ (lv_sub hl [2, 1, 0] rfl)
              · skip
                refine lv_aload_n hx hb d_Mod_total_135 rfl (lv_at hl 0 rfl) ?_
                refine va_get (D := (dC, dI)) (ci := 5) (v := .ref d9) (C := R_Mod) (T := T_Mod) (N := 29) hx hb ht i_Mod hown hK hP 0 rfl rfl 14 (by decide) (ht _ mw_620) (fun _ h9 => h9) rfl d_Mod_total_136 ?_
                refine lv_iload hx hb d_Mod_total_139 (lv_at hl 2 rfl) ?_
                refine sm_iald (j := v) hx hb hK hP 2 0 rfl rfl (vp_in_nI (by first | omega | assumption) (by first | decide | omega)) (nI_clamp (by first | omega | (have := sm_lt31; omega))) d_Mod_total_141 ?_
                refine lv_iconst (v := -1) hx hb d_Mod_total_142 (by decide) ?_
                refine lv_icmp_eq (tgt := 150) hx hb d_Mod_total_143 (by decide) (fun c_143 => ?_) (fun c_143 => ?_)
                · skip
                  refine lv_iconst (v := 0) hx hb d_Mod_total_150 (by decide) ?_
                  refine lv_iadd hx hb d_Mod_total_151 ?_
                  refine sm_re (Int32.add_zero _) ?_
                  refine lv_istore_n (lv' := [(3, .int (nI c3)), (0, .ref md), (4, .int (nI v))]) hx hb d_Mod_total_152 rfl hl (by decide) rfl (fun ls hl => ?_)
                  refine lv_iinc (v := nI (v + 1)) (lv' := [(4, .int (nI (v + 1))), (3, .int (nI c3)), (0, .ref md)]) hx hb d_Mod_total_153 hl (k := 2) rfl (nI_add v 1) (by decide) rfl (fun ls hl => ?_)
                  refine lv_goto (tgt := 110) hx hb d_Mod_total_156 (by decide) ?_
                  exact ih_110 q1 (v + 1) c3 (by omega) (by rw [← hv, cM]; simp only [if_neg c_121, if_neg c_132, if_pos c_143]) (by omega) _ _ (hP.sub [0, 1, 2] rfl) (hD.sub [0, 1, 2] (by decide) rfl) hS _ (lv_sub hl [2, 1, 0] rfl)
                · skip
                  refine lv_iconst (v := 1) hx hb d_Mod_total_146 (by decide) ?_
                  refine lv_goto (tgt := 151) hx hb d_Mod_total_147 (by decide) ?_
                  refine lv_iadd hx hb d_Mod_total_151 ?_
                  refine sm_re (nI_add c3 1) ?_
                  refine lv_istore_n (lv' := [(3, .int (nI (c3 + 1))), (0, .ref md), (4, .int (nI v))]) hx hb d_Mod_total_152 rfl hl (by decide) rfl (fun ls hl => ?_)
                  refine lv_iinc (v := nI (v + 1)) (lv' := [(4, .int (nI (v + 1))), (3, .int (nI (c3 + 1))), (0, .ref md)]) hx hb d_Mod_total_153 hl (k := 2) rfl (nI_add v 1) (by decide) rfl (fun ls hl => ?_)
                  refine lv_goto (tgt := 110) hx hb d_Mod_total_156 (by decide) ?_
                  exact ih_110 q1 (v + 1) (c3 + 1) (by omega) (by rw [← hv, cM]; simp only [if_neg c_121, if_neg c_132, if_neg c_143]) (by omega) _ _ (hP.sub [0, 1, 2] rfl) (hD.sub [0, 1, 2] (by decide) rfl) hS _ (lv_sub hl [2, 1, 0] rfl)
      exact loop_110 25 24 0 0 rfl rfl (by decide) _ _ (hP.sub [0, 1, 2] rfl) (hD.sub [0, 1, 2] (by decide) rfl) hS _ (lv_sub hl [3, 1, 0] rfl)
    by_cases g_19_161 : what = 4
    · skip
      refine sm_tab (tgt := 161) hx hb d_Mod_total_19 (by rw [g_19_161]; decide) ?_
      refine lv_iload_n hx hb d_Mod_total_161 rfl (lv_at hl 0 rfl) ?_
      refine lv_if_eq (tgt := 172) hx hb d_Mod_total_162 (by decide) (fun _ => ?_) (fun z => absurd z (by decide))
      refine lv_iconst (v := 0) hx hb d_Mod_total_172 (by decide) ?_
      refine sm_ri (v := (0 : Int32)) (ws := [(md, .inr (5, [.int ((0 : Int32)), .int (nI n), .ref d1, .ref d2, .ref d3, .ref d4, .int (nI wt), .int isS, .int (nI nr), .int (nI ns), .ref d5, .ref d6, .ref d7, .ref d8, .ref d9, .ref da, .ref db, .int sta, .int nx, .int (nI sp), .int (nI cl2), .int (nI np), .ref dc, .ref dd, .ref de, .int (nI ww), .ref df, .ref dg, .ref dh])), (d7, .inl (cZ, 24, .inl mi)), (d9, .inl (cI, 24, .inl mr))]) hx hb hr hlocks hK (hP.sub [0, 1, 2] rfl) (hD.sub [0, 1, 2] (by decide) rfl) hS ?_ d_Mod_total_173
      exact ⟨by simp only [totM, if_neg g_19_68, if_neg g_19_73, if_neg g_19_89, if_neg g_19_105, if_pos g_19_161, if_pos c_9], rfl⟩
    by_cases g_19_174 : what = 5
    · skip
      refine sm_tab (tgt := 174) hx hb d_Mod_total_19 (by rw [g_19_174]; decide) ?_
      refine lv_iload_n hx hb d_Mod_total_174 rfl (lv_at hl 0 rfl) ?_
      refine lv_if_eq (tgt := 185) hx hb d_Mod_total_175 (by decide) (fun _ => ?_) (fun z => absurd z (by decide))
      refine lv_iconst (v := 0) hx hb d_Mod_total_185 (by decide) ?_
      refine sm_ri (v := (0 : Int32)) (ws := [(md, .inr (5, [.int ((0 : Int32)), .int (nI n), .ref d1, .ref d2, .ref d3, .ref d4, .int (nI wt), .int isS, .int (nI nr), .int (nI ns), .ref d5, .ref d6, .ref d7, .ref d8, .ref d9, .ref da, .ref db, .int sta, .int nx, .int (nI sp), .int (nI cl2), .int (nI np), .ref dc, .ref dd, .ref de, .int (nI ww), .ref df, .ref dg, .ref dh])), (d7, .inl (cZ, 24, .inl mi)), (d9, .inl (cI, 24, .inl mr))]) hx hb hr hlocks hK (hP.sub [0, 1, 2] rfl) (hD.sub [0, 1, 2] (by decide) rfl) hS ?_ d_Mod_total_186
      exact ⟨by simp only [totM, if_neg g_19_68, if_neg g_19_73, if_neg g_19_89, if_neg g_19_105, if_neg g_19_161, if_pos g_19_174, if_pos c_9], rfl⟩
    by_cases g_19_187 : what = 6
    · skip
      refine sm_tab (tgt := 187) hx hb d_Mod_total_19 (by rw [g_19_187]; decide) ?_
      refine lv_iload_n hx hb d_Mod_total_187 rfl (lv_at hl 0 rfl) ?_
      refine lv_if_eq (tgt := 198) hx hb d_Mod_total_188 (by decide) (fun _ => ?_) (fun z => absurd z (by decide))
      refine lv_iconst (v := 0) hx hb d_Mod_total_198 (by decide) ?_
      refine sm_ri (v := (0 : Int32)) (ws := [(md, .inr (5, [.int ((0 : Int32)), .int (nI n), .ref d1, .ref d2, .ref d3, .ref d4, .int (nI wt), .int isS, .int (nI nr), .int (nI ns), .ref d5, .ref d6, .ref d7, .ref d8, .ref d9, .ref da, .ref db, .int sta, .int nx, .int (nI sp), .int (nI cl2), .int (nI np), .ref dc, .ref dd, .ref de, .int (nI ww), .ref df, .ref dg, .ref dh])), (d7, .inl (cZ, 24, .inl mi)), (d9, .inl (cI, 24, .inl mr))]) hx hb hr hlocks hK (hP.sub [0, 1, 2] rfl) (hD.sub [0, 1, 2] (by decide) rfl) hS ?_ d_Mod_total_199
      exact ⟨by simp only [totM, if_neg g_19_68, if_neg g_19_73, if_neg g_19_89, if_neg g_19_105, if_neg g_19_161, if_neg g_19_174, if_pos g_19_187, if_pos c_9], rfl⟩
    by_cases g_19_200 : what = 7
    · skip
      refine sm_tab (tgt := 200) hx hb d_Mod_total_19 (by rw [g_19_200]; decide) ?_
      refine lv_iload_n hx hb d_Mod_total_200 rfl (lv_at hl 0 rfl) ?_
      refine lv_if_eq (tgt := 211) hx hb d_Mod_total_201 (by decide) (fun _ => ?_) (fun z => absurd z (by decide))
      refine lv_iconst (v := 0) hx hb d_Mod_total_211 (by decide) ?_
      refine sm_ri (v := (0 : Int32)) (ws := [(md, .inr (5, [.int ((0 : Int32)), .int (nI n), .ref d1, .ref d2, .ref d3, .ref d4, .int (nI wt), .int isS, .int (nI nr), .int (nI ns), .ref d5, .ref d6, .ref d7, .ref d8, .ref d9, .ref da, .ref db, .int sta, .int nx, .int (nI sp), .int (nI cl2), .int (nI np), .ref dc, .ref dd, .ref de, .int (nI ww), .ref df, .ref dg, .ref dh])), (d7, .inl (cZ, 24, .inl mi)), (d9, .inl (cI, 24, .inl mr))]) hx hb hr hlocks hK (hP.sub [0, 1, 2] rfl) (hD.sub [0, 1, 2] (by decide) rfl) hS ?_ d_Mod_total_212
      exact ⟨by simp only [totM, if_neg g_19_68, if_neg g_19_73, if_neg g_19_89, if_neg g_19_105, if_neg g_19_161, if_neg g_19_174, if_neg g_19_187, if_pos g_19_200, if_pos c_9], rfl⟩
    by_cases g_19_213 : what = 8
    · skip
      refine sm_tab (tgt := 213) hx hb d_Mod_total_19 (by rw [g_19_213]; decide) ?_
      refine lv_aload_n hx hb d_Mod_total_213 rfl (lv_at hl 1 rfl) ?_
      refine va_get (D := (dC, dI)) (ci := 5) (v := .int sta) (C := R_Mod) (T := T_Mod) (N := 29) hx hb ht i_Mod hown hK hP 0 rfl rfl 17 (by decide) (ht _ mw_623) (fun _ h9 => h9) rfl d_Mod_total_214 ?_
      refine sm_ri (v := sta) (ws := [(md, .inr (5, [.int ((0 : Int32)), .int (nI n), .ref d1, .ref d2, .ref d3, .ref d4, .int (nI wt), .int isS, .int (nI nr), .int (nI ns), .ref d5, .ref d6, .ref d7, .ref d8, .ref d9, .ref da, .ref db, .int sta, .int nx, .int (nI sp), .int (nI cl2), .int (nI np), .ref dc, .ref dd, .ref de, .int (nI ww), .ref df, .ref dg, .ref dh])), (d7, .inl (cZ, 24, .inl mi)), (d9, .inl (cI, 24, .inl mr))]) hx hb hr hlocks hK (hP.sub [0, 1, 2] rfl) (hD.sub [0, 1, 2] (by decide) rfl) hS ?_ d_Mod_total_217
      exact ⟨by simp only [totM, if_neg g_19_68, if_neg g_19_73, if_neg g_19_89, if_neg g_19_105, if_neg g_19_161, if_neg g_19_174, if_neg g_19_187, if_neg g_19_200, if_pos g_19_213], rfl⟩
    refine sm_tab (tgt := 218) hx hb d_Mod_total_19 (sm_tabD [0, 1, 2, 3, 4, 5, 6, 7, 8] ⟨fun z => g_19_68 (z), fun z => g_19_73 (z), fun z => g_19_89 (z), fun z => g_19_105 (z), fun z => g_19_161 (z), fun z => g_19_174 (z), fun z => g_19_187 (z), fun z => g_19_200 (z), fun z => g_19_213 (z), trivial⟩ (by decide) (by decide)) ?_
    refine lv_iconst (v := -1) hx hb d_Mod_total_218 (by decide) ?_
    refine sm_ri (v := (-1 : Int32)) (ws := [(md, .inr (5, [.int ((0 : Int32)), .int (nI n), .ref d1, .ref d2, .ref d3, .ref d4, .int (nI wt), .int isS, .int (nI nr), .int (nI ns), .ref d5, .ref d6, .ref d7, .ref d8, .ref d9, .ref da, .ref db, .int sta, .int nx, .int (nI sp), .int (nI cl2), .int (nI np), .ref dc, .ref dd, .ref de, .int (nI ww), .ref df, .ref dg, .ref dh])), (d7, .inl (cZ, 24, .inl mi)), (d9, .inl (cI, 24, .inl mr))]) hx hb hr hlocks hK (hP.sub [0, 1, 2] rfl) (hD.sub [0, 1, 2] (by decide) rfl) hS ?_ d_Mod_total_219
    exact ⟨by simp only [totM, if_neg g_19_68, if_neg g_19_73, if_neg g_19_89, if_neg g_19_105, if_neg g_19_161, if_neg g_19_174, if_neg g_19_187, if_neg g_19_200, if_neg g_19_213], rfl⟩
  · skip
    refine lv_iconst (v := 1) hx hb d_Mod_total_12 (by decide) ?_
    refine lv_goto (tgt := 17) hx hb d_Mod_total_13 (by decide) ?_
    refine lv_istore_n (lv' := [(2, .int ((1 : Int32))), (0, .ref md), (1, .int what)]) hx hb d_Mod_total_17 rfl hl (by decide) rfl (fun ls hl => ?_)
    refine lv_iload_n hx hb d_Mod_total_18 rfl (lv_at hl 2 rfl) ?_
    by_cases g_19_68 : what = 0
    · skip
      refine sm_tab (tgt := 68) hx hb d_Mod_total_19 (by rw [g_19_68]; decide) ?_
      refine lv_aload_n hx hb d_Mod_total_68 rfl (lv_at hl 1 rfl) ?_
      refine va_get (D := (dC, dI)) (ci := 5) (v := .int (nI n)) (C := R_Mod) (T := T_Mod) (N := 29) hx hb ht i_Mod hown hK hP 0 rfl rfl 1 (by decide) (ht _ mw_607) (fun _ h9 => h9) rfl d_Mod_total_69 ?_
      refine sm_ri (v := nI n) (ws := [(md, .inr (5, [.int ((0 : Int32)), .int (nI n), .ref d1, .ref d2, .ref d3, .ref d4, .int (nI wt), .int isS, .int (nI nr), .int (nI ns), .ref d5, .ref d6, .ref d7, .ref d8, .ref d9, .ref da, .ref db, .int sta, .int nx, .int (nI sp), .int (nI cl2), .int (nI np), .ref dc, .ref dd, .ref de, .int (nI ww), .ref df, .ref dg, .ref dh])), (d7, .inl (cZ, 24, .inl mi)), (d9, .inl (cI, 24, .inl mr))]) hx hb hr hlocks hK (hP.sub [0, 1, 2] rfl) (hD.sub [0, 1, 2] (by decide) rfl) hS ?_ d_Mod_total_72
      exact ⟨by simp only [totM, if_pos g_19_68], rfl⟩
    by_cases g_19_73 : what = 1
    · skip
      refine sm_tab (tgt := 73) hx hb d_Mod_total_19 (by rw [g_19_73]; decide) ?_
      refine lv_aload_n hx hb d_Mod_total_73 rfl (lv_at hl 1 rfl) ?_
      refine va_get (D := (dC, dI)) (ci := 5) (v := .int isS) (C := R_Mod) (T := T_Mod) (N := 29) hx hb ht i_Mod hown hK hP 0 rfl rfl 7 (by decide) (ht _ mw_613) (fun _ h9 => h9) rfl d_Mod_total_74 ?_
      refine lv_if_eq (tgt := 87) hx hb d_Mod_total_77 (by decide) (fun c_77 => ?_) (fun c_77 => ?_)
      · skip
        refine lv_iconst (v := 0) hx hb d_Mod_total_87 (by decide) ?_
        refine sm_ri (v := (0 : Int32)) (ws := [(md, .inr (5, [.int ((0 : Int32)), .int (nI n), .ref d1, .ref d2, .ref d3, .ref d4, .int (nI wt), .int isS, .int (nI nr), .int (nI ns), .ref d5, .ref d6, .ref d7, .ref d8, .ref d9, .ref da, .ref db, .int sta, .int nx, .int (nI sp), .int (nI cl2), .int (nI np), .ref dc, .ref dd, .ref de, .int (nI ww), .ref df, .ref dg, .ref dh])), (d7, .inl (cZ, 24, .inl mi)), (d9, .inl (cI, 24, .inl mr))]) hx hb hr hlocks hK (hP.sub [0, 1, 2] rfl) (hD.sub [0, 1, 2] (by decide) rfl) hS ?_ d_Mod_total_88
        exact ⟨by simp only [totM, if_neg g_19_68, if_pos g_19_73, if_pos c_77], rfl⟩
      · skip
        refine lv_aload_n hx hb d_Mod_total_80 rfl (lv_at hl 1 rfl) ?_
        refine va_get (D := (dC, dI)) (ci := 5) (v := .int (nI nr)) (C := R_Mod) (T := T_Mod) (N := 29) hx hb ht i_Mod hown hK hP 0 rfl rfl 8 (by decide) (ht _ mw_614) (fun _ h9 => h9) rfl d_Mod_total_81 ?_
        refine lv_goto (tgt := 88) hx hb d_Mod_total_84 (by decide) ?_
        refine sm_ri (v := nI nr) (ws := [(md, .inr (5, [.int ((0 : Int32)), .int (nI n), .ref d1, .ref d2, .ref d3, .ref d4, .int (nI wt), .int isS, .int (nI nr), .int (nI ns), .ref d5, .ref d6, .ref d7, .ref d8, .ref d9, .ref da, .ref db, .int sta, .int nx, .int (nI sp), .int (nI cl2), .int (nI np), .ref dc, .ref dd, .ref de, .int (nI ww), .ref df, .ref dg, .ref dh])), (d7, .inl (cZ, 24, .inl mi)), (d9, .inl (cI, 24, .inl mr))]) hx hb hr hlocks hK (hP.sub [0, 1, 2] rfl) (hD.sub [0, 1, 2] (by decide) rfl) hS ?_ d_Mod_total_88
        exact ⟨by simp only [totM, if_neg g_19_68, if_pos g_19_73, if_neg c_77], rfl⟩
    by_cases g_19_89 : what = 2
    · skip
      refine sm_tab (tgt := 89) hx hb d_Mod_total_19 (by rw [g_19_89]; decide) ?_
      refine lv_aload_n hx hb d_Mod_total_89 rfl (lv_at hl 1 rfl) ?_
      refine va_get (D := (dC, dI)) (ci := 5) (v := .int isS) (C := R_Mod) (T := T_Mod) (N := 29) hx hb ht i_Mod hown hK hP 0 rfl rfl 7 (by decide) (ht _ mw_613) (fun _ h9 => h9) rfl d_Mod_total_90 ?_
      refine lv_if_eq (tgt := 103) hx hb d_Mod_total_93 (by decide) (fun c_93 => ?_) (fun c_93 => ?_)
      · skip
        refine lv_iconst (v := 0) hx hb d_Mod_total_103 (by decide) ?_
        refine sm_ri (v := (0 : Int32)) (ws := [(md, .inr (5, [.int ((0 : Int32)), .int (nI n), .ref d1, .ref d2, .ref d3, .ref d4, .int (nI wt), .int isS, .int (nI nr), .int (nI ns), .ref d5, .ref d6, .ref d7, .ref d8, .ref d9, .ref da, .ref db, .int sta, .int nx, .int (nI sp), .int (nI cl2), .int (nI np), .ref dc, .ref dd, .ref de, .int (nI ww), .ref df, .ref dg, .ref dh])), (d7, .inl (cZ, 24, .inl mi)), (d9, .inl (cI, 24, .inl mr))]) hx hb hr hlocks hK (hP.sub [0, 1, 2] rfl) (hD.sub [0, 1, 2] (by decide) rfl) hS ?_ d_Mod_total_104
        exact ⟨by simp only [totM, if_neg g_19_68, if_neg g_19_73, if_pos g_19_89, if_pos c_93], rfl⟩
      · skip
        refine lv_aload_n hx hb d_Mod_total_96 rfl (lv_at hl 1 rfl) ?_
        refine va_get (D := (dC, dI)) (ci := 5) (v := .int (nI ns)) (C := R_Mod) (T := T_Mod) (N := 29) hx hb ht i_Mod hown hK hP 0 rfl rfl 9 (by decide) (ht _ mw_615) (fun _ h9 => h9) rfl d_Mod_total_97 ?_
        refine lv_goto (tgt := 104) hx hb d_Mod_total_100 (by decide) ?_
        refine sm_ri (v := nI ns) (ws := [(md, .inr (5, [.int ((0 : Int32)), .int (nI n), .ref d1, .ref d2, .ref d3, .ref d4, .int (nI wt), .int isS, .int (nI nr), .int (nI ns), .ref d5, .ref d6, .ref d7, .ref d8, .ref d9, .ref da, .ref db, .int sta, .int nx, .int (nI sp), .int (nI cl2), .int (nI np), .ref dc, .ref dd, .ref de, .int (nI ww), .ref df, .ref dg, .ref dh])), (d7, .inl (cZ, 24, .inl mi)), (d9, .inl (cI, 24, .inl mr))]) hx hb hr hlocks hK (hP.sub [0, 1, 2] rfl) (hD.sub [0, 1, 2] (by decide) rfl) hS ?_ d_Mod_total_104
        exact ⟨by simp only [totM, if_neg g_19_68, if_neg g_19_73, if_pos g_19_89, if_neg c_93], rfl⟩
    by_cases g_19_105 : what = 3
    · skip
      refine sm_tab (tgt := 105) hx hb d_Mod_total_19 (by rw [g_19_105]; decide) ?_
      refine lv_iconst (v := 0) hx hb d_Mod_total_105 (by decide) ?_
      refine lv_istore_n (lv' := [(3, .int ((0 : Int32))), (2, .int ((1 : Int32))), (0, .ref md), (1, .int what)]) hx hb d_Mod_total_106 rfl hl (by decide) rfl (fun ls hl => ?_)
      refine lv_iconst (v := 0) hx hb d_Mod_total_107 (by decide) ?_
      refine lv_istore (lv' := [(4, .int ((0 : Int32))), (3, .int ((0 : Int32))), (2, .int ((1 : Int32))), (0, .ref md), (1, .int what)]) hx hb d_Mod_total_108 hl (by decide) rfl (fun ls hl => ?_)
      have loop_110 : ∀ (N_110 : Nat) (q : Nat) (v : Nat) (c3 : Nat), (q + v = 24) → (cM isS mi mr q v c3 = cM isS mi mr 24 0 0) → q < N_110 → ∀ (H : Heap) (locs : List Loc), va_P (dC, dI) smC [(md, .inr (5, [.int ((0 : Int32)), .int (nI n), .ref d1, .ref d2, .ref d3, .ref d4, .int (nI wt), .int isS, .int (nI nr), .int (nI ns), .ref d5, .ref d6, .ref d7, .ref d8, .ref d9, .ref da, .ref db, .int sta, .int nx, .int (nI sp), .int (nI cl2), .int (nI np), .ref dc, .ref dd, .ref de, .int (nI ww), .ref df, .ref dg, .ref dh])), (d7, .inl (cZ, 24, .inl mi)), (d9, .inl (cI, 24, .inl mr))] H → va_D A [(md, .inr (5, [.int ((0 : Int32)), .int (nI n), .ref d1, .ref d2, .ref d3, .ref d4, .int (nI wt), .int isS, .int (nI nr), .int (nI ns), .ref d5, .ref d6, .ref d7, .ref d8, .ref d9, .ref da, .ref db, .int sta, .int nx, .int (nI sp), .int (nI cl2), .int (nI np), .ref dc, .ref dd, .ref de, .int (nI ww), .ref df, .ref dg, .ref dh])), (d7, .inl (cZ, 24, .inl mi)), (d9, .inl (cI, 24, .inl mr))] → va_S A s.heap H locs → ∀ ls : Array Slot, lv_has ls 5 [(0, .ref md), (3, .int (nI c3)), (4, .int (nI v))] → W p l e (rmF 0 0) s m ([.ref md, .int what] : List Value).toArray below meth c H locs 0 0 (MQ below (va_Qi (fun q w2 => q = (totM what isS sta n nr ns (cM isS mi mr 24 0 0) sp cl2 np nx) ∧ w2 = [(md, .inr (5, [.int ((0 : Int32)), .int (nI n), .ref d1, .ref d2, .ref d3, .ref d4, .int (nI wt), .int isS, .int (nI nr), .int (nI ns), .ref d5, .ref d6, .ref d7, .ref d8, .ref d9, .ref da, .ref db, .int sta, .int nx, .int (nI sp), .int (nI cl2), .int (nI np), .ref dc, .ref dd, .ref de, .int (nI ww), .ref df, .ref dg, .ref dh])), (d7, .inl (cZ, 24, .inl mi)), (d9, .inl (cI, 24, .inl mr))]) (sm_B (dC, dI) smC [(cI, .int), (cZ, .boolean)] A) A) ([.ref md, .int what] : List Value).toArray s 0 0 A) (F0 m 110 ls []) := by
        intro N_110
        induction N_110 with
        | zero => intro q v c3 _ _ z; exact absurd z (Nat.not_lt_zero _)
        | succ N_110 ih_110 =>
          intro q v c3 hqv hv m_110 H locs hP hD hS ls hl
          refine lv_iload hx hb d_Mod_total_110 (lv_at hl 2 rfl) ?_
          refine lv_bipush (v := 24) hx hb d_Mod_total_112 (by decide) ?_
          refine lv_icmp_ge (tgt := 159) hx hb d_Mod_total_114 (by decide) (fun c_114 => ?_) (fun c_114 => ?_)
          · skip
            have f_114 : 24 ≤ v := (nI_leI (a := 24) (b := v) (by first | omega | decide) (by first | omega | decide)).mp c_114
            obtain rfl : q = 0 := by omega
            have hce : c3 = cM isS mi mr 24 0 0 := hv
            refine lv_iload_n hx hb d_Mod_total_159 rfl (lv_at hl 1 rfl) ?_
            refine sm_ri (v := nI c3) (ws := [(md, .inr (5, [.int ((0 : Int32)), .int (nI n), .ref d1, .ref d2, .ref d3, .ref d4, .int (nI wt), .int isS, .int (nI nr), .int (nI ns), .ref d5, .ref d6, .ref d7, .ref d8, .ref d9, .ref da, .ref db, .int sta, .int nx, .int (nI sp), .int (nI cl2), .int (nI np), .ref dc, .ref dd, .ref de, .int (nI ww), .ref df, .ref dg, .ref dh])), (d7, .inl (cZ, 24, .inl mi)), (d9, .inl (cI, 24, .inl mr))]) hx hb hr hlocks hK (hP.sub [0, 1, 2] rfl) (hD.sub [0, 1, 2] (by decide) rfl) hS ?_ d_Mod_total_160
            exact ⟨by simp only [totM, if_neg g_19_68, if_neg g_19_73, if_neg g_19_89, if_pos g_19_105]; rw [hce], rfl⟩
          · skip
            have f_114 : ¬ 24 ≤ v := fun z => c_114 ((nI_leI (a := 24) (b := v) (by first | omega | decide) (by first | omega | decide)).mpr z)
            obtain ⟨q1, rfl⟩ : ∃ z, q = z + 1 := ⟨q - 1, by omega⟩
            refine lv_aload_n hx hb d_Mod_total_117 rfl (lv_at hl 0 rfl) ?_
            refine va_get (D := (dC, dI)) (ci := 5) (v := .int isS) (C := R_Mod) (T := T_Mod) (N := 29) hx hb ht i_Mod hown hK hP 0 rfl rfl 7 (by decide) (ht _ mw_613) (fun _ h9 => h9) rfl d_Mod_total_118 ?_
            refine lv_if_eq (tgt := 159) hx hb d_Mod_total_121 (by decide) (fun c_121 => ?_) (fun c_121 => ?_)
            · skip
              have hce : c3 = cM isS mi mr 24 0 0 := by rw [← hv, cM, if_pos c_121]
              refine lv_iload_n hx hb d_Mod_total_159 rfl (lv_at hl 1 rfl) ?_
              refine sm_ri (v := nI c3) (ws := [(md, .inr (5, [.int ((0 : Int32)), .int (nI n), .ref d1, .ref d2, .ref d3, .ref d4, .int (nI wt), .int isS, .int (nI nr), .int (nI ns), .ref d5, .ref d6, .ref d7, .ref d8, .ref d9, .ref da, .ref db, .int sta, .int nx, .int (nI sp), .int (nI cl2), .int (nI np), .ref dc, .ref dd, .ref de, .int (nI ww), .ref df, .ref dg, .ref dh])), (d7, .inl (cZ, 24, .inl mi)), (d9, .inl (cI, 24, .inl mr))]) hx hb hr hlocks hK (hP.sub [0, 1, 2] rfl) (hD.sub [0, 1, 2] (by decide) rfl) hS ?_ d_Mod_total_160
              exact ⟨by simp only [totM, if_neg g_19_68, if_neg g_19_73, if_neg g_19_89, if_pos g_19_105]; rw [hce], rfl⟩
            · skip
              refine lv_iload_n hx hb d_Mod_total_124 rfl (lv_at hl 1 rfl) ?_
              refine lv_aload_n hx hb d_Mod_total_125 rfl (lv_at hl 0 rfl) ?_
              refine va_get (D := (dC, dI)) (ci := 5) (v := .ref d7) (C := R_Mod) (T := T_Mod) (N := 29) hx hb ht i_Mod hown hK hP 0 rfl rfl 12 (by decide) (ht _ mw_618) (fun _ h9 => h9) rfl d_Mod_total_126 ?_
              refine lv_iload hx hb d_Mod_total_129 (lv_at hl 2 rfl) ?_
              refine sm_zald (j := v) hx hb hK hP 1 1 rfl rfl (vp_in_nI (by first | omega | assumption) (by first | decide | omega)) (nI_clamp (by first | omega | (have := sm_lt31; omega))) d_Mod_total_131 ?_
              refine lv_if_eq (tgt := 150) hx hb d_Mod_total_132 (by decide) (fun c_132 => ?_) (fun c_132 => ?_)
              · skip
                refine lv_iconst (v := 0) hx hb d_Mod_total_150 (by decide) ?_
                refine lv_iadd hx hb d_Mod_total_151 ?_
                refine sm_re (Int32.add_zero _) ?_
                refine lv_istore_n (lv' := [(3, .int (nI c3)), (0, .ref md), (4, .int (nI v))]) hx hb d_Mod_total_152 rfl hl (by decide) rfl (fun ls hl => ?_)
                refine lv_iinc (v := nI (v + 1)) (lv' := [(4, .int (nI (v + 1))), (3, .int (nI c3)), (0, .ref md)]) hx hb d_Mod_total_153 hl (k := 2) rfl (nI_add v 1) (by decide) rfl (fun ls hl => ?_)
                refine lv_goto (tgt := 110) hx hb d_Mod_total_156 (by decide) ?_
                exact ih_110 q1 (v + 1) c3 (by omega) (by rw [← hv, cM]; simp only [if_neg c_121, if_pos c_132]) (by omega) _ _ (hP.sub [0, 1, 2] rfl) (hD.sub [0, 1, 2] (by decide) rfl) hS _ (lv_sub hl [2, 1, 0] rfl)
              · skip
                refine lv_aload_n hx hb d_Mod_total_135 rfl (lv_at hl 0 rfl) ?_
                refine va_get (D := (dC, dI)) (ci := 5) (v := .ref d9) (C := R_Mod) (T := T_Mod) (N := 29) hx hb ht i_Mod hown hK hP 0 rfl rfl 14 (by decide) (ht _ mw_620) (fun _ h9 => h9) rfl d_Mod_total_136 ?_
                refine lv_iload hx hb d_Mod_total_139 (lv_at hl 2 rfl) ?_
                refine sm_iald (j := v) hx hb hK hP 2 0 rfl rfl (vp_in_nI (by first | omega | assumption) (by first | decide | omega)) (nI_clamp (by first | omega | (have := sm_lt31; omega))) d_Mod_total_141 ?_
                refine lv_iconst (v := -1) hx hb d_Mod_total_142 (by decide) ?_
                refine lv_icmp_eq (tgt := 150) hx hb d_Mod_total_143 (by decide) (fun c_143 => ?_) (fun c_143 => ?_)
                · skip
                  refine lv_iconst (v := 0) hx hb d_Mod_total_150 (by decide) ?_
                  refine lv_iadd hx hb d_Mod_total_151 ?_
                  refine sm_re (Int32.add_zero _) ?_
                  refine lv_istore_n (lv' := [(3, .int (nI c3)), (0, .ref md), (4, .int (nI v))]) hx hb d_Mod_total_152 rfl hl (by decide) rfl (fun ls hl => ?_)
                  refine lv_iinc (v := nI (v + 1)) (lv' := [(4, .int (nI (v + 1))), (3, .int (nI c3)), (0, .ref md)]) hx hb d_Mod_total_153 hl (k := 2) rfl (nI_add v 1) (by decide) rfl (fun ls hl => ?_)
                  refine lv_goto (tgt := 110) hx hb d_Mod_total_156 (by decide) ?_
                  exact ih_110 q1 (v + 1) c3 (by omega) (by rw [← hv, cM]; simp only [if_neg c_121, if_neg c_132, if_pos c_143]) (by omega) _ _ (hP.sub [0, 1, 2] rfl) (hD.sub [0, 1, 2] (by decide) rfl) hS _ (lv_sub hl [2, 1, 0] rfl)
                · skip
                  refine lv_iconst (v := 1) hx hb d_Mod_total_146 (by decide) ?_
                  refine lv_goto (tgt := 151) hx hb d_Mod_total_147 (by decide) ?_
                  refine lv_iadd hx hb d_Mod_total_151 ?_
                  refine sm_re (nI_add c3 1) ?_
                  refine lv_istore_n (lv' := [(3, .int (nI (c3 + 1))), (0, .ref md), (4, .int (nI v))]) hx hb d_Mod_total_152 rfl hl (by decide) rfl (fun ls hl => ?_)
                  refine lv_iinc (v := nI (v + 1)) (lv' := [(4, .int (nI (v + 1))), (3, .int (nI (c3 + 1))), (0, .ref md)]) hx hb d_Mod_total_153 hl (k := 2) rfl (nI_add v 1) (by decide) rfl (fun ls hl => ?_)
                  refine lv_goto (tgt := 110) hx hb d_Mod_total_156 (by decide) ?_
                  exact ih_110 q1 (v + 1) (c3 + 1) (by omega) (by rw [← hv, cM]; simp only [if_neg c_121, if_neg c_132, if_neg c_143]) (by omega) _ _ (hP.sub [0, 1, 2] rfl) (hD.sub [0, 1, 2] (by decide) rfl) hS _ (lv_sub hl [2, 1, 0] rfl)
      exact loop_110 25 24 0 0 rfl rfl (by decide) _ _ (hP.sub [0, 1, 2] rfl) (hD.sub [0, 1, 2] (by decide) rfl) hS _ (lv_sub hl [3, 1, 0] rfl)
    by_cases g_19_161 : what = 4
    · skip
      refine sm_tab (tgt := 161) hx hb d_Mod_total_19 (by rw [g_19_161]; decide) ?_
      refine lv_iload_n hx hb d_Mod_total_161 rfl (lv_at hl 0 rfl) ?_
      refine lv_if_eq (tgt := 172) hx hb d_Mod_total_162 (by decide) (fun z => absurd z (by decide)) (fun _ => ?_)
      refine lv_aload_n hx hb d_Mod_total_165 rfl (lv_at hl 1 rfl) ?_
      refine va_get (D := (dC, dI)) (ci := 5) (v := .int (nI sp)) (C := R_Mod) (T := T_Mod) (N := 29) hx hb ht i_Mod hown hK hP 0 rfl rfl 19 (by decide) (ht _ mw_625) (fun _ h9 => h9) rfl d_Mod_total_166 ?_
      refine lv_goto (tgt := 173) hx hb d_Mod_total_169 (by decide) ?_
      refine sm_ri (v := nI sp) (ws := [(md, .inr (5, [.int ((0 : Int32)), .int (nI n), .ref d1, .ref d2, .ref d3, .ref d4, .int (nI wt), .int isS, .int (nI nr), .int (nI ns), .ref d5, .ref d6, .ref d7, .ref d8, .ref d9, .ref da, .ref db, .int sta, .int nx, .int (nI sp), .int (nI cl2), .int (nI np), .ref dc, .ref dd, .ref de, .int (nI ww), .ref df, .ref dg, .ref dh])), (d7, .inl (cZ, 24, .inl mi)), (d9, .inl (cI, 24, .inl mr))]) hx hb hr hlocks hK (hP.sub [0, 1, 2] rfl) (hD.sub [0, 1, 2] (by decide) rfl) hS ?_ d_Mod_total_173
      exact ⟨by simp only [totM, if_neg g_19_68, if_neg g_19_73, if_neg g_19_89, if_neg g_19_105, if_pos g_19_161, if_neg c_9], rfl⟩
    by_cases g_19_174 : what = 5
    · skip
      refine sm_tab (tgt := 174) hx hb d_Mod_total_19 (by rw [g_19_174]; decide) ?_
      refine lv_iload_n hx hb d_Mod_total_174 rfl (lv_at hl 0 rfl) ?_
      refine lv_if_eq (tgt := 185) hx hb d_Mod_total_175 (by decide) (fun z => absurd z (by decide)) (fun _ => ?_)
      refine lv_aload_n hx hb d_Mod_total_178 rfl (lv_at hl 1 rfl) ?_
      refine va_get (D := (dC, dI)) (ci := 5) (v := .int nx) (C := R_Mod) (T := T_Mod) (N := 29) hx hb ht i_Mod hown hK hP 0 rfl rfl 18 (by decide) (ht _ mw_624) (fun _ h9 => h9) rfl d_Mod_total_179 ?_
      refine lv_goto (tgt := 186) hx hb d_Mod_total_182 (by decide) ?_
      refine sm_ri (v := nx) (ws := [(md, .inr (5, [.int ((0 : Int32)), .int (nI n), .ref d1, .ref d2, .ref d3, .ref d4, .int (nI wt), .int isS, .int (nI nr), .int (nI ns), .ref d5, .ref d6, .ref d7, .ref d8, .ref d9, .ref da, .ref db, .int sta, .int nx, .int (nI sp), .int (nI cl2), .int (nI np), .ref dc, .ref dd, .ref de, .int (nI ww), .ref df, .ref dg, .ref dh])), (d7, .inl (cZ, 24, .inl mi)), (d9, .inl (cI, 24, .inl mr))]) hx hb hr hlocks hK (hP.sub [0, 1, 2] rfl) (hD.sub [0, 1, 2] (by decide) rfl) hS ?_ d_Mod_total_186
      exact ⟨by simp only [totM, if_neg g_19_68, if_neg g_19_73, if_neg g_19_89, if_neg g_19_105, if_neg g_19_161, if_pos g_19_174, if_neg c_9], rfl⟩
    by_cases g_19_187 : what = 6
    · skip
      refine sm_tab (tgt := 187) hx hb d_Mod_total_19 (by rw [g_19_187]; decide) ?_
      refine lv_iload_n hx hb d_Mod_total_187 rfl (lv_at hl 0 rfl) ?_
      refine lv_if_eq (tgt := 198) hx hb d_Mod_total_188 (by decide) (fun z => absurd z (by decide)) (fun _ => ?_)
      refine lv_aload_n hx hb d_Mod_total_191 rfl (lv_at hl 1 rfl) ?_
      refine va_get (D := (dC, dI)) (ci := 5) (v := .int (nI cl2)) (C := R_Mod) (T := T_Mod) (N := 29) hx hb ht i_Mod hown hK hP 0 rfl rfl 20 (by decide) (ht _ mw_626) (fun _ h9 => h9) rfl d_Mod_total_192 ?_
      refine lv_goto (tgt := 199) hx hb d_Mod_total_195 (by decide) ?_
      refine sm_ri (v := nI cl2) (ws := [(md, .inr (5, [.int ((0 : Int32)), .int (nI n), .ref d1, .ref d2, .ref d3, .ref d4, .int (nI wt), .int isS, .int (nI nr), .int (nI ns), .ref d5, .ref d6, .ref d7, .ref d8, .ref d9, .ref da, .ref db, .int sta, .int nx, .int (nI sp), .int (nI cl2), .int (nI np), .ref dc, .ref dd, .ref de, .int (nI ww), .ref df, .ref dg, .ref dh])), (d7, .inl (cZ, 24, .inl mi)), (d9, .inl (cI, 24, .inl mr))]) hx hb hr hlocks hK (hP.sub [0, 1, 2] rfl) (hD.sub [0, 1, 2] (by decide) rfl) hS ?_ d_Mod_total_199
      exact ⟨by simp only [totM, if_neg g_19_68, if_neg g_19_73, if_neg g_19_89, if_neg g_19_105, if_neg g_19_161, if_neg g_19_174, if_pos g_19_187, if_neg c_9], rfl⟩
    by_cases g_19_200 : what = 7
    · skip
      refine sm_tab (tgt := 200) hx hb d_Mod_total_19 (by rw [g_19_200]; decide) ?_
      refine lv_iload_n hx hb d_Mod_total_200 rfl (lv_at hl 0 rfl) ?_
      refine lv_if_eq (tgt := 211) hx hb d_Mod_total_201 (by decide) (fun z => absurd z (by decide)) (fun _ => ?_)
      refine lv_aload_n hx hb d_Mod_total_204 rfl (lv_at hl 1 rfl) ?_
      refine va_get (D := (dC, dI)) (ci := 5) (v := .int (nI np)) (C := R_Mod) (T := T_Mod) (N := 29) hx hb ht i_Mod hown hK hP 0 rfl rfl 21 (by decide) (ht _ mw_627) (fun _ h9 => h9) rfl d_Mod_total_205 ?_
      refine lv_goto (tgt := 212) hx hb d_Mod_total_208 (by decide) ?_
      refine sm_ri (v := nI np) (ws := [(md, .inr (5, [.int ((0 : Int32)), .int (nI n), .ref d1, .ref d2, .ref d3, .ref d4, .int (nI wt), .int isS, .int (nI nr), .int (nI ns), .ref d5, .ref d6, .ref d7, .ref d8, .ref d9, .ref da, .ref db, .int sta, .int nx, .int (nI sp), .int (nI cl2), .int (nI np), .ref dc, .ref dd, .ref de, .int (nI ww), .ref df, .ref dg, .ref dh])), (d7, .inl (cZ, 24, .inl mi)), (d9, .inl (cI, 24, .inl mr))]) hx hb hr hlocks hK (hP.sub [0, 1, 2] rfl) (hD.sub [0, 1, 2] (by decide) rfl) hS ?_ d_Mod_total_212
      exact ⟨by simp only [totM, if_neg g_19_68, if_neg g_19_73, if_neg g_19_89, if_neg g_19_105, if_neg g_19_161, if_neg g_19_174, if_neg g_19_187, if_pos g_19_200, if_neg c_9], rfl⟩
    by_cases g_19_213 : what = 8
    · skip
      refine sm_tab (tgt := 213) hx hb d_Mod_total_19 (by rw [g_19_213]; decide) ?_
      refine lv_aload_n hx hb d_Mod_total_213 rfl (lv_at hl 1 rfl) ?_
      refine va_get (D := (dC, dI)) (ci := 5) (v := .int sta) (C := R_Mod) (T := T_Mod) (N := 29) hx hb ht i_Mod hown hK hP 0 rfl rfl 17 (by decide) (ht _ mw_623) (fun _ h9 => h9) rfl d_Mod_total_214 ?_
      refine sm_ri (v := sta) (ws := [(md, .inr (5, [.int ((0 : Int32)), .int (nI n), .ref d1, .ref d2, .ref d3, .ref d4, .int (nI wt), .int isS, .int (nI nr), .int (nI ns), .ref d5, .ref d6, .ref d7, .ref d8, .ref d9, .ref da, .ref db, .int sta, .int nx, .int (nI sp), .int (nI cl2), .int (nI np), .ref dc, .ref dd, .ref de, .int (nI ww), .ref df, .ref dg, .ref dh])), (d7, .inl (cZ, 24, .inl mi)), (d9, .inl (cI, 24, .inl mr))]) hx hb hr hlocks hK (hP.sub [0, 1, 2] rfl) (hD.sub [0, 1, 2] (by decide) rfl) hS ?_ d_Mod_total_217
      exact ⟨by simp only [totM, if_neg g_19_68, if_neg g_19_73, if_neg g_19_89, if_neg g_19_105, if_neg g_19_161, if_neg g_19_174, if_neg g_19_187, if_neg g_19_200, if_pos g_19_213], rfl⟩
    refine sm_tab (tgt := 218) hx hb d_Mod_total_19 (sm_tabD [0, 1, 2, 3, 4, 5, 6, 7, 8] ⟨fun z => g_19_68 (z), fun z => g_19_73 (z), fun z => g_19_89 (z), fun z => g_19_105 (z), fun z => g_19_161 (z), fun z => g_19_174 (z), fun z => g_19_187 (z), fun z => g_19_200 (z), fun z => g_19_213 (z), trivial⟩ (by decide) (by decide)) ?_
    refine lv_iconst (v := -1) hx hb d_Mod_total_218 (by decide) ?_
    refine sm_ri (v := (-1 : Int32)) (ws := [(md, .inr (5, [.int ((0 : Int32)), .int (nI n), .ref d1, .ref d2, .ref d3, .ref d4, .int (nI wt), .int isS, .int (nI nr), .int (nI ns), .ref d5, .ref d6, .ref d7, .ref d8, .ref d9, .ref da, .ref db, .int sta, .int nx, .int (nI sp), .int (nI cl2), .int (nI np), .ref dc, .ref dd, .ref de, .int (nI ww), .ref df, .ref dg, .ref dh])), (d7, .inl (cZ, 24, .inl mi)), (d9, .inl (cI, 24, .inl mr))]) hx hb hr hlocks hK (hP.sub [0, 1, 2] rfl) (hD.sub [0, 1, 2] (by decide) rfl) hS ?_ d_Mod_total_219
    exact ⟨by simp only [totM, if_neg g_19_68, if_neg g_19_73, if_neg g_19_89, if_neg g_19_105, if_neg g_19_161, if_neg g_19_174, if_neg g_19_187, if_neg g_19_200, if_neg g_19_213], rfl⟩
