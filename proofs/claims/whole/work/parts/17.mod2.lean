abbrev y_Mod_lives : MethodName := ⟨"ScanMillModel", "lives", "(II)Z"⟩
theorem d_Mod_lives_0 : decode prog_7_method_12_code 0 = .ok (.aload_n 0, 1) := by decide +kernel
theorem d_Mod_lives_1 : decode prog_7_method_12_code 1 = .ok (.iconst 0, 1) := by decide +kernel
theorem d_Mod_lives_2 : decode prog_7_method_12_code 2 = .ok (.putfield 90, 3) := by decide +kernel
theorem d_Mod_lives_5 : decode prog_7_method_12_code 5 = .ok (.iconst 0, 1) := by decide +kernel
theorem d_Mod_lives_6 : decode prog_7_method_12_code 6 = .ok (.istore_n 3, 1) := by decide +kernel
theorem d_Mod_lives_7 : decode prog_7_method_12_code 7 = .ok (.iload_n 3, 1) := by decide +kernel
theorem d_Mod_lives_8 : decode prog_7_method_12_code 8 = .ok (.bipush 60, 2) := by decide +kernel
theorem d_Mod_lives_10 : decode prog_7_method_12_code 10 = .ok (.if_icmp .gt 16, 3) := by decide +kernel
theorem d_Mod_lives_26 : decode prog_7_method_12_code 26 = .ok (.aload_n 0, 1) := by decide +kernel
theorem d_Mod_lives_27 : decode prog_7_method_12_code 27 = .ok (.iload_n 1, 1) := by decide +kernel
theorem d_Mod_lives_28 : decode prog_7_method_12_code 28 = .ok (.invokevirtual 93, 3) := by decide +kernel
theorem mw_731 : Cond.code ⟨"ScanMillModel", "goTo", "(I)V"⟩ prog_7_method_11_code 2 (Option.none : Option FieldType) ∈ wG := wG_t 731 (by decide +kernel) (by decide +kernel)
theorem mw_728 : Cond.methodLink "ScanMillModel" 93 ⟨"ScanMillModel", "goTo", "(I)V"⟩ ∈ wG := wG_t 728 (by decide +kernel) (by decide +kernel)
theorem mw_730 : Cond.instanceMethod ⟨"ScanMillModel", "goTo", "(I)V"⟩ ∈ wG := wG_t 730 (by decide +kernel) (by decide +kernel)
theorem mp_23 : Cond.selects "ScanMillModel" ⟨"ScanMillModel", "goTo", "(I)V"⟩ ⟨"ScanMillModel", "goTo", "(I)V"⟩ ∈ wG := wG_p 23 (by decide +kernel) (by decide +kernel)
theorem d_Mod_lives_31 : decode prog_7_method_12_code 31 = .ok (.iconst 0, 1) := by decide +kernel
theorem d_Mod_lives_32 : decode prog_7_method_12_code 32 = .ok (.istore_n 3, 1) := by decide +kernel
theorem d_Mod_lives_33 : decode prog_7_method_12_code 33 = .ok (.iload_n 3, 1) := by decide +kernel
theorem d_Mod_lives_34 : decode prog_7_method_12_code 34 = .ok (.aload_n 0, 1) := by decide +kernel
theorem d_Mod_lives_35 : decode prog_7_method_12_code 35 = .ok (.getfield 90, 3) := by decide +kernel
theorem d_Mod_lives_38 : decode prog_7_method_12_code 38 = .ok (.if_icmp .ge 120, 3) := by decide +kernel
theorem d_Mod_lives_158 : decode prog_7_method_12_code 158 = .ok (.iconst 0, 1) := by decide +kernel
theorem d_Mod_lives_159 : decode prog_7_method_12_code 159 = .ok (.ireturn, 1) := by decide +kernel
theorem d_Mod_lives_41 : decode prog_7_method_12_code 41 = .ok (.aload_n 0, 1) := by decide +kernel
theorem d_Mod_lives_42 : decode prog_7_method_12_code 42 = .ok (.getfield 57, 3) := by decide +kernel
theorem d_Mod_lives_45 : decode prog_7_method_12_code 45 = .ok (.iload_n 3, 1) := by decide +kernel
theorem d_Mod_lives_46 : decode prog_7_method_12_code 46 = .ok (.iaload, 1) := by decide +kernel
theorem d_Mod_lives_47 : decode prog_7_method_12_code 47 = .ok (.istore 4, 2) := by decide +kernel
theorem d_Mod_lives_49 : decode prog_7_method_12_code 49 = .ok (.aload_n 0, 1) := by decide +kernel
theorem d_Mod_lives_50 : decode prog_7_method_12_code 50 = .ok (.iload 4, 2) := by decide +kernel
theorem d_Mod_lives_52 : decode prog_7_method_12_code 52 = .ok (.iload_n 2, 1) := by decide +kernel
theorem d_Mod_lives_53 : decode prog_7_method_12_code 53 = .ok (.invokevirtual 97, 3) := by decide +kernel
theorem mw_735 : Cond.code ⟨"ScanMillModel", "reads", "(II)Z"⟩ prog_7_method_9_code 3 (Option.some FieldType.boolean) ∈ wG := wG_t 735 (by decide +kernel) (by decide +kernel)
theorem mw_732 : Cond.methodLink "ScanMillModel" 97 ⟨"ScanMillModel", "reads", "(II)Z"⟩ ∈ wG := wG_t 732 (by decide +kernel) (by decide +kernel)
theorem mw_734 : Cond.instanceMethod ⟨"ScanMillModel", "reads", "(II)Z"⟩ ∈ wG := wG_t 734 (by decide +kernel) (by decide +kernel)
theorem mp_24 : Cond.selects "ScanMillModel" ⟨"ScanMillModel", "reads", "(II)Z"⟩ ⟨"ScanMillModel", "reads", "(II)Z"⟩ ∈ wG := wG_p 24 (by decide +kernel) (by decide +kernel)
theorem d_Mod_lives_56 : decode prog_7_method_12_code 56 = .ok (.ifCond .eq 5, 3) := by decide +kernel
theorem d_Mod_lives_61 : decode prog_7_method_12_code 61 = .ok (.aload_n 0, 1) := by decide +kernel
theorem d_Mod_lives_62 : decode prog_7_method_12_code 62 = .ok (.iload 4, 2) := by decide +kernel
theorem d_Mod_lives_64 : decode prog_7_method_12_code 64 = .ok (.iload_n 2, 1) := by decide +kernel
theorem d_Mod_lives_65 : decode prog_7_method_12_code 65 = .ok (.invokevirtual 101, 3) := by decide +kernel
theorem mw_739 : Cond.code ⟨"ScanMillModel", "sets", "(II)Z"⟩ prog_7_method_10_code 3 (Option.some FieldType.boolean) ∈ wG := wG_t 739 (by decide +kernel) (by decide +kernel)
theorem mw_736 : Cond.methodLink "ScanMillModel" 101 ⟨"ScanMillModel", "sets", "(II)Z"⟩ ∈ wG := wG_t 736 (by decide +kernel) (by decide +kernel)
theorem mw_738 : Cond.instanceMethod ⟨"ScanMillModel", "sets", "(II)Z"⟩ ∈ wG := wG_t 738 (by decide +kernel) (by decide +kernel)
theorem mp_25 : Cond.selects "ScanMillModel" ⟨"ScanMillModel", "sets", "(II)Z"⟩ ⟨"ScanMillModel", "sets", "(II)Z"⟩ ∈ wG := wG_p 25 (by decide +kernel) (by decide +kernel)
theorem d_Mod_lives_68 : decode prog_7_method_12_code 68 = .ok (.ifCond .eq 6, 3) := by decide +kernel
theorem d_Mod_lives_74 : decode prog_7_method_12_code 74 = .ok (.aload_n 0, 1) := by decide +kernel
theorem d_Mod_lives_75 : decode prog_7_method_12_code 75 = .ok (.getfield 7, 3) := by decide +kernel
theorem d_Mod_lives_78 : decode prog_7_method_12_code 78 = .ok (.iload 4, 2) := by decide +kernel
theorem d_Mod_lives_80 : decode prog_7_method_12_code 80 = .ok (.iaload, 1) := by decide +kernel
theorem d_Mod_lives_81 : decode prog_7_method_12_code 81 = .ok (.bipush 7, 2) := by decide +kernel
theorem d_Mod_lives_83 : decode prog_7_method_12_code 83 = .ok (.if_icmp .ne 14, 3) := by decide +kernel
theorem d_Mod_lives_97 : decode prog_7_method_12_code 97 = .ok (.aload_n 0, 1) := by decide +kernel
theorem d_Mod_lives_98 : decode prog_7_method_12_code 98 = .ok (.getfield 7, 3) := by decide +kernel
theorem d_Mod_lives_101 : decode prog_7_method_12_code 101 = .ok (.iload 4, 2) := by decide +kernel
theorem d_Mod_lives_103 : decode prog_7_method_12_code 103 = .ok (.iaload, 1) := by decide +kernel
theorem d_Mod_lives_104 : decode prog_7_method_12_code 104 = .ok (.bipush 8, 2) := by decide +kernel
theorem d_Mod_lives_106 : decode prog_7_method_12_code 106 = .ok (.if_icmp .ne 14, 3) := by decide +kernel
theorem d_Mod_lives_120 : decode prog_7_method_12_code 120 = .ok (.aload_n 0, 1) := by decide +kernel
theorem d_Mod_lives_121 : decode prog_7_method_12_code 121 = .ok (.getfield 7, 3) := by decide +kernel
theorem d_Mod_lives_124 : decode prog_7_method_12_code 124 = .ok (.iload 4, 2) := by decide +kernel
theorem d_Mod_lives_126 : decode prog_7_method_12_code 126 = .ok (.iaload, 1) := by decide +kernel
theorem d_Mod_lives_127 : decode prog_7_method_12_code 127 = .ok (.bipush 7, 2) := by decide +kernel
theorem d_Mod_lives_129 : decode prog_7_method_12_code 129 = .ok (.if_icmp .eq 23, 3) := by decide +kernel
theorem d_Mod_lives_132 : decode prog_7_method_12_code 132 = .ok (.aload_n 0, 1) := by decide +kernel
theorem d_Mod_lives_133 : decode prog_7_method_12_code 133 = .ok (.getfield 7, 3) := by decide +kernel
theorem d_Mod_lives_136 : decode prog_7_method_12_code 136 = .ok (.iload 4, 2) := by decide +kernel
theorem d_Mod_lives_138 : decode prog_7_method_12_code 138 = .ok (.iaload, 1) := by decide +kernel
theorem d_Mod_lives_139 : decode prog_7_method_12_code 139 = .ok (.bipush 11, 2) := by decide +kernel
theorem d_Mod_lives_141 : decode prog_7_method_12_code 141 = .ok (.if_icmp .eq 11, 3) := by decide +kernel
theorem d_Mod_lives_152 : decode prog_7_method_12_code 152 = .ok (.iinc 3 1, 3) := by decide +kernel
theorem d_Mod_lives_155 : decode prog_7_method_12_code 155 = .ok (.goto (-122), 3) := by decide +kernel
theorem d_Mod_lives_144 : decode prog_7_method_12_code 144 = .ok (.aload_n 0, 1) := by decide +kernel
theorem d_Mod_lives_145 : decode prog_7_method_12_code 145 = .ok (.iload 4, 2) := by decide +kernel
theorem d_Mod_lives_147 : decode prog_7_method_12_code 147 = .ok (.iconst 1, 1) := by decide +kernel
theorem d_Mod_lives_148 : decode prog_7_method_12_code 148 = .ok (.iadd, 1) := by decide +kernel
theorem d_Mod_lives_149 : decode prog_7_method_12_code 149 = .ok (.invokevirtual 93, 3) := by decide +kernel
theorem d_Mod_lives_109 : decode prog_7_method_12_code 109 = .ok (.aload_n 0, 1) := by decide +kernel
theorem d_Mod_lives_110 : decode prog_7_method_12_code 110 = .ok (.aload_n 0, 1) := by decide +kernel
theorem d_Mod_lives_111 : decode prog_7_method_12_code 111 = .ok (.getfield 16, 3) := by decide +kernel
theorem d_Mod_lives_114 : decode prog_7_method_12_code 114 = .ok (.iload 4, 2) := by decide +kernel
theorem d_Mod_lives_116 : decode prog_7_method_12_code 116 = .ok (.iaload, 1) := by decide +kernel
theorem d_Mod_lives_117 : decode prog_7_method_12_code 117 = .ok (.invokevirtual 93, 3) := by decide +kernel
theorem d_Mod_lives_86 : decode prog_7_method_12_code 86 = .ok (.aload_n 0, 1) := by decide +kernel
theorem d_Mod_lives_87 : decode prog_7_method_12_code 87 = .ok (.aload_n 0, 1) := by decide +kernel
theorem d_Mod_lives_88 : decode prog_7_method_12_code 88 = .ok (.getfield 13, 3) := by decide +kernel
theorem d_Mod_lives_91 : decode prog_7_method_12_code 91 = .ok (.iload 4, 2) := by decide +kernel
theorem d_Mod_lives_93 : decode prog_7_method_12_code 93 = .ok (.iaload, 1) := by decide +kernel
theorem d_Mod_lives_94 : decode prog_7_method_12_code 94 = .ok (.invokevirtual 93, 3) := by decide +kernel
theorem d_Mod_lives_71 : decode prog_7_method_12_code 71 = .ok (.goto 81, 3) := by decide +kernel
theorem d_Mod_lives_59 : decode prog_7_method_12_code 59 = .ok (.iconst 1, 1) := by decide +kernel
theorem d_Mod_lives_60 : decode prog_7_method_12_code 60 = .ok (.ireturn, 1) := by decide +kernel
theorem d_Mod_lives_13 : decode prog_7_method_12_code 13 = .ok (.aload_n 0, 1) := by decide +kernel
theorem d_Mod_lives_14 : decode prog_7_method_12_code 14 = .ok (.getfield 60, 3) := by decide +kernel
theorem d_Mod_lives_17 : decode prog_7_method_12_code 17 = .ok (.iload_n 3, 1) := by decide +kernel
theorem d_Mod_lives_18 : decode prog_7_method_12_code 18 = .ok (.iconst 0, 1) := by decide +kernel
theorem d_Mod_lives_19 : decode prog_7_method_12_code 19 = .ok (.bastore, 1) := by decide +kernel
theorem d_Mod_lives_20 : decode prog_7_method_12_code 20 = .ok (.iinc 3 1, 3) := by decide +kernel
theorem d_Mod_lives_23 : decode prog_7_method_12_code 23 = .ok (.goto (-16), 3) := by decide +kernel
set_option maxRecDepth 100000 in
set_option maxHeartbeats 4000000 in
theorem c_Mod_lives {l : Launch} {dC : Nat → ClassId} {dI : Nat → Nat → Nat} {cI cZ : ClassId} {md d1 d2 d3 d4 d5 d6 d7 d8 d9 da db dc dd de df dg dh n wt nr ns sp cl2 np ww : Nat} {th isS sta nx : Int32} {fk fa fb fc wy sn : Nat → Int32} {fr v : Nat} (hn : n ≤ 60) (hok : okRow n fk fa fb fc) (hfr : fr < n) (hv24 : v < 24) : sm_I l y_Mod_lives prog_7_method_12_code 5 (some .boolean) (rmF 1 22) (dC, dI) smC [(cI, .int), (cZ, .boolean)] [.ref md, .int (nI fr), .int (nI v)] [(md, .inr (5, [.int th, .int (nI n), .ref d1, .ref d2, .ref d3, .ref d4, .int (nI wt), .int isS, .int (nI nr), .int (nI ns), .ref d5, .ref d6, .ref d7, .ref d8, .ref d9, .ref da, .ref db, .int sta, .int nx, .int (nI sp), .int (nI cl2), .int (nI np), .ref dc, .ref dd, .ref de, .int (nI ww), .ref df, .ref dg, .ref dh])), (d1, .inl (cI, 60, .inl fk)), (d2, .inl (cI, 60, .inl fa)), (d3, .inl (cI, 60, .inl fb)), (d4, .inl (cI, 60, .inl fc)), (df, .inl (cI, 61, .inl wy)), (dg, .inl (cZ, 61, .inl sn))] (fun q w2 => ∃ ww2 : Nat, ∃ wy2 : Nat → Int32, ∃ sn2 : Nat → Int32, q = (b2i (hasB (flw n fk fa fb fc 61 (fun _ => 0) 1) (nI fr) (nI v))) ∧ w2 = [(md, .inr (5, [.int th, .int (nI n), .ref d1, .ref d2, .ref d3, .ref d4, .int (nI wt), .int isS, .int (nI nr), .int (nI ns), .ref d5, .ref d6, .ref d7, .ref d8, .ref d9, .ref da, .ref db, .int sta, .int nx, .int (nI sp), .int (nI cl2), .int (nI np), .ref dc, .ref dd, .ref de, .int (nI ww2), .ref df, .ref dg, .ref dh])), (d1, .inl (cI, 60, .inl fk)), (d2, .inl (cI, 60, .inl fa)), (d3, .inl (cI, 60, .inl fb)), (d4, .inl (cI, 60, .inl fc)), (df, .inl (cI, 61, .inl wy2)), (dg, .inl (cZ, 61, .inl sn2))]) := by
  refine sm_I.mk (by decide) (Nat.le_of_ble_eq_true rfl) ?_
  intro p e s m below meth c A H locs ls hx hb hr ht hown hlocks hml hnm hP hK hD hA hS hN hl
  have hl : lv_has ls 5 [(0, .ref md), (1, .int (nI fr)), (2, .int (nI v))] := hl
  refine lv_aload_n hx hb d_Mod_lives_0 rfl (lv_at hl 0 rfl) ?_
  refine lv_iconst (v := 0) hx hb d_Mod_lives_1 (by decide) ?_
  refine va_put (D := (dC, dI)) (ci := 5) (v := .int ((0 : Int32))) (ty := .int) (C := R_Mod) (T := T_Mod) (N := 29) hx hb ht i_Mod t_Mod t_Mod_ok n_Mod hown hK hP hD hS 0 rfl rfl 25 (by decide) (ht _ mw_631) (fun _ h9 => h9) rfl (by decide +kernel) rfl rfl (Nat.le_of_ble_eq_true rfl) d_Mod_lives_2 (fun H locs hP hD hS => ?_)
  have hP : va_P (dC, dI) smC [(md, .inr (5, [.int th, .int (nI n), .ref d1, .ref d2, .ref d3, .ref d4, .int (nI wt), .int isS, .int (nI nr), .int (nI ns), .ref d5, .ref d6, .ref d7, .ref d8, .ref d9, .ref da, .ref db, .int sta, .int nx, .int (nI sp), .int (nI cl2), .int (nI np), .ref dc, .ref dd, .ref de, .int ((0 : Int32)), .ref df, .ref dg, .ref dh])), (d1, .inl (cI, 60, .inl fk)), (d2, .inl (cI, 60, .inl fa)), (d3, .inl (cI, 60, .inl fb)), (d4, .inl (cI, 60, .inl fc)), (df, .inl (cI, 61, .inl wy)), (dg, .inl (cZ, 61, .inl sn))] H := hP
  have hD : va_D A [(md, .inr (5, [.int th, .int (nI n), .ref d1, .ref d2, .ref d3, .ref d4, .int (nI wt), .int isS, .int (nI nr), .int (nI ns), .ref d5, .ref d6, .ref d7, .ref d8, .ref d9, .ref da, .ref db, .int sta, .int nx, .int (nI sp), .int (nI cl2), .int (nI np), .ref dc, .ref dd, .ref de, .int ((0 : Int32)), .ref df, .ref dg, .ref dh])), (d1, .inl (cI, 60, .inl fk)), (d2, .inl (cI, 60, .inl fa)), (d3, .inl (cI, 60, .inl fb)), (d4, .inl (cI, 60, .inl fc)), (df, .inl (cI, 61, .inl wy)), (dg, .inl (cZ, 61, .inl sn))] := hD
  refine lv_iconst (v := 0) hx hb d_Mod_lives_5 (by decide) ?_
  refine lv_istore_n (lv' := [(3, .int ((0 : Int32))), (0, .ref md), (1, .int (nI fr)), (2, .int (nI v))]) hx hb d_Mod_lives_6 rfl hl (by decide) rfl (fun ls hl => ?_)
  have loop_7 : ∀ (N_7 : Nat) (q : Nat) (k : Nat) (s1 : Nat → Int32), (q + k = 61) → (∀ t, t < k → s1 t = 0) → q < N_7 → ∀ (H : Heap) (locs : List Loc), va_P (dC, dI) smC [(md, .inr (5, [.int th, .int (nI n), .ref d1, .ref d2, .ref d3, .ref d4, .int (nI wt), .int isS, .int (nI nr), .int (nI ns), .ref d5, .ref d6, .ref d7, .ref d8, .ref d9, .ref da, .ref db, .int sta, .int nx, .int (nI sp), .int (nI cl2), .int (nI np), .ref dc, .ref dd, .ref de, .int ((0 : Int32)), .ref df, .ref dg, .ref dh])), (d1, .inl (cI, 60, .inl fk)), (d2, .inl (cI, 60, .inl fa)), (d3, .inl (cI, 60, .inl fb)), (d4, .inl (cI, 60, .inl fc)), (df, .inl (cI, 61, .inl wy)), (dg, .inl (cZ, 61, .inl s1))] H → va_D A [(md, .inr (5, [.int th, .int (nI n), .ref d1, .ref d2, .ref d3, .ref d4, .int (nI wt), .int isS, .int (nI nr), .int (nI ns), .ref d5, .ref d6, .ref d7, .ref d8, .ref d9, .ref da, .ref db, .int sta, .int nx, .int (nI sp), .int (nI cl2), .int (nI np), .ref dc, .ref dd, .ref de, .int ((0 : Int32)), .ref df, .ref dg, .ref dh])), (d1, .inl (cI, 60, .inl fk)), (d2, .inl (cI, 60, .inl fa)), (d3, .inl (cI, 60, .inl fb)), (d4, .inl (cI, 60, .inl fc)), (df, .inl (cI, 61, .inl wy)), (dg, .inl (cZ, 61, .inl s1))] → va_S A s.heap H locs → ∀ ls : Array Slot, lv_has ls 5 [(0, .ref md), (1, .int (nI fr)), (2, .int (nI v)), (3, .int (nI k))] → W p l e (rmF 1 22) s m ([.ref md, .int (nI fr), .int (nI v)] : List Value).toArray below meth c H locs 0 0 (MQ below (va_Qi (fun q w2 => ∃ ww2 : Nat, ∃ wy2 : Nat → Int32, ∃ sn2 : Nat → Int32, q = (b2i (hasB (flw n fk fa fb fc 61 (fun _ => 0) 1) (nI fr) (nI v))) ∧ w2 = [(md, .inr (5, [.int th, .int (nI n), .ref d1, .ref d2, .ref d3, .ref d4, .int (nI wt), .int isS, .int (nI nr), .int (nI ns), .ref d5, .ref d6, .ref d7, .ref d8, .ref d9, .ref da, .ref db, .int sta, .int nx, .int (nI sp), .int (nI cl2), .int (nI np), .ref dc, .ref dd, .ref de, .int (nI ww2), .ref df, .ref dg, .ref dh])), (d1, .inl (cI, 60, .inl fk)), (d2, .inl (cI, 60, .inl fa)), (d3, .inl (cI, 60, .inl fb)), (d4, .inl (cI, 60, .inl fc)), (df, .inl (cI, 61, .inl wy2)), (dg, .inl (cZ, 61, .inl sn2))]) (sm_B (dC, dI) smC [(cI, .int), (cZ, .boolean)] A) A) ([.ref md, .int (nI fr), .int (nI v)] : List Value).toArray s 0 0 A) (F0 m 7 ls []) := by
    intro N_7
    induction N_7 with
    | zero => intro q k s1 _ _ z; exact absurd z (Nat.not_lt_zero _)
    | succ N_7 ih_7 =>
      intro q k s1 hqk hz m_7 H locs hP hD hS ls hl
      refine lv_iload_n hx hb d_Mod_lives_7 rfl (lv_at hl 3 rfl) ?_
      refine lv_bipush (v := 60) hx hb d_Mod_lives_8 (by decide) ?_
      refine lv_icmp_gt (tgt := 26) hx hb d_Mod_lives_10 (by decide) (fun c_10 => ?_) (fun c_10 => ?_)
      · skip
        have f_10 : 60 < k := (nI_ltI (a := 60) (b := k) (by first | omega | decide) (by first | omega | decide)).mp c_10
        obtain rfl : q = 0 := by omega
        refine lv_aload_n hx hb d_Mod_lives_26 rfl (lv_at hl 0 rfl) ?_
        refine lv_iload_n hx hb d_Mod_lives_27 rfl (lv_at hl 1 rfl) ?_
        refine sm_gov (wc := [(md, .inr (5, [.int th, .int (nI n), .ref d1, .ref d2, .ref d3, .ref d4, .int (nI wt), .int isS, .int (nI nr), .int (nI ns), .ref d5, .ref d6, .ref d7, .ref d8, .ref d9, .ref da, .ref db, .int sta, .int nx, .int (nI sp), .int (nI cl2), .int (nI np), .ref dc, .ref dd, .ref de, .int ((0 : Int32)), .ref df, .ref dg, .ref dh])), (df, .inl (cI, 61, .inl wy)), (dg, .inl (cZ, 61, .inl s1))]) (wr := [(d1, .inl (cI, 60, .inl fk)), (d2, .inl (cI, 60, .inl fa)), (d3, .inl (cI, 60, .inl fb)), (d4, .inl (cI, 60, .inl fc))]) (va_runV (As := [.int (nI fr)]) (rest := []) ⟨hx, hb, hml, hown, ht⟩ ((c_Mod_goTo (l := l) (dC := dC) (dI := dI) (cI := cI) (cZ := cZ) (md := md) (d1 := d1) (d2 := d2) (d3 := d3) (d4 := d4) (d5 := d5) (d6 := d6) (d7 := d7) (d8 := d8) (d9 := d9) (da := da) (db := db) (dc := dc) (dd := dd) (de := de) (df := df) (dg := dg) (dh := dh) (n := n) (wt := wt) (nr := nr) (ns := ns) (sp := sp) (cl2 := cl2) (np := np) (ww := 0) (th := th) (isS := isS) (sta := sta) (nx := nx) (wy := wy) (sn := s1) (u := fr) hn (by omega) (fun _ _ => by decide)).at H.size) (sm_cV 1 ht mw_731 mw_6 mw_728 mw_730 mp_23 rfl rfl (by decide +kernel) ⟨Nat.le_of_ble_eq_true rfl, Nat.le_of_ble_eq_true rfl⟩) (sm_preV (ci := 5) hN hK hP hD [0, 5, 6] rfl rfl (by decide) 0 rfl rfl) rfl rfl hl.1 rfl (lv_room (Nat.le_of_ble_eq_true rfl)) d_Mod_lives_28 ⟨Nat.zero_le _, Nat.zero_le _⟩) hP hD hS hA [0, 5, 6] [1, 2, 3, 4] rfl rfl (by decide) (by decide) (fun w_28 H locs q_28 hP hD hS => ?_)
        obtain rfl := q_28
        have hP : va_P (dC, dI) smC [(d1, .inl (cI, 60, .inl fk)), (d2, .inl (cI, 60, .inl fa)), (d3, .inl (cI, 60, .inl fb)), (d4, .inl (cI, 60, .inl fc)), (md, .inr (5, [.int th, .int (nI n), .ref d1, .ref d2, .ref d3, .ref d4, .int (nI wt), .int isS, .int (nI nr), .int (nI ns), .ref d5, .ref d6, .ref d7, .ref d8, .ref d9, .ref da, .ref db, .int sta, .int nx, .int (nI sp), .int (nI cl2), .int (nI np), .ref dc, .ref dd, .ref de, .int (nI ((gtS n 0 wy s1 fr).1)), .ref df, .ref dg, .ref dh])), (df, .inl (cI, 61, .inl ((gtS n 0 wy s1 fr).2.1))), (dg, .inl (cZ, 61, .inl ((gtS n 0 wy s1 fr).2.2)))] H := hP
        have hD : va_D A [(d1, .inl (cI, 60, .inl fk)), (d2, .inl (cI, 60, .inl fa)), (d3, .inl (cI, 60, .inl fb)), (d4, .inl (cI, 60, .inl fc)), (md, .inr (5, [.int th, .int (nI n), .ref d1, .ref d2, .ref d3, .ref d4, .int (nI wt), .int isS, .int (nI nr), .int (nI ns), .ref d5, .ref d6, .ref d7, .ref d8, .ref d9, .ref da, .ref db, .int sta, .int nx, .int (nI sp), .int (nI cl2), .int (nI np), .ref dc, .ref dd, .ref de, .int (nI ((gtS n 0 wy s1 fr).1)), .ref df, .ref dg, .ref dh])), (df, .inl (cI, 61, .inl ((gtS n 0 wy s1 fr).2.1))), (dg, .inl (cZ, 61, .inl ((gtS n 0 wy s1 fr).2.2)))] := hD
        have hg : gtS n 0 wy s1 fr = (1, upd wy 0 (nI fr), upd s1 fr 1) := if_pos ⟨hfr, hz fr (by omega)⟩
        rw [hg] at hP hD
        dsimp only at hP hD
        have hP : va_P (dC, dI) smC [(d1, .inl (cI, 60, .inl fk)), (d2, .inl (cI, 60, .inl fa)), (d3, .inl (cI, 60, .inl fb)), (d4, .inl (cI, 60, .inl fc)), (md, .inr (5, [.int th, .int (nI n), .ref d1, .ref d2, .ref d3, .ref d4, .int (nI wt), .int isS, .int (nI nr), .int (nI ns), .ref d5, .ref d6, .ref d7, .ref d8, .ref d9, .ref da, .ref db, .int sta, .int nx, .int (nI sp), .int (nI cl2), .int (nI np), .ref dc, .ref dd, .ref de, .int (nI 1), .ref df, .ref dg, .ref dh])), (df, .inl (cI, 61, .inl (upd wy 0 (nI fr)))), (dg, .inl (cZ, 61, .inl (upd s1 fr 1)))] H := hP
        have hD : va_D A [(d1, .inl (cI, 60, .inl fk)), (d2, .inl (cI, 60, .inl fa)), (d3, .inl (cI, 60, .inl fb)), (d4, .inl (cI, 60, .inl fc)), (md, .inr (5, [.int th, .int (nI n), .ref d1, .ref d2, .ref d3, .ref d4, .int (nI wt), .int isS, .int (nI nr), .int (nI ns), .ref d5, .ref d6, .ref d7, .ref d8, .ref d9, .ref da, .ref db, .int sta, .int nx, .int (nI sp), .int (nI cl2), .int (nI np), .ref dc, .ref dd, .ref de, .int (nI 1), .ref df, .ref dg, .ref dh])), (df, .inl (cI, 61, .inl (upd wy 0 (nI fr)))), (dg, .inl (cZ, 61, .inl (upd s1 fr 1)))] := hD
        refine lv_iconst (v := 0) hx hb d_Mod_lives_31 (by decide) ?_
        refine lv_istore_n (lv' := [(3, .int ((0 : Int32))), (0, .ref md), (1, .int (nI fr)), (2, .int (nI v))]) hx hb d_Mod_lives_32 rfl hl (by decide) rfl (fun ls hl => ?_)
        have loop_33 : ∀ (N_33 : Nat) (i : Nat) (ww2 : Nat) (wy2 : Nat → Int32) (sn2 : Nat → Int32), (bfI n fk (tgN fk fa fb) (rdB n fk fa fb fc v) (stB n fk fa v) fr i ww2 wy2 sn2) → (61 - i) < N_33 → ∀ (H : Heap) (locs : List Loc), va_P (dC, dI) smC [(md, .inr (5, [.int th, .int (nI n), .ref d1, .ref d2, .ref d3, .ref d4, .int (nI wt), .int isS, .int (nI nr), .int (nI ns), .ref d5, .ref d6, .ref d7, .ref d8, .ref d9, .ref da, .ref db, .int sta, .int nx, .int (nI sp), .int (nI cl2), .int (nI np), .ref dc, .ref dd, .ref de, .int (nI ww2), .ref df, .ref dg, .ref dh])), (d1, .inl (cI, 60, .inl fk)), (d2, .inl (cI, 60, .inl fa)), (d3, .inl (cI, 60, .inl fb)), (d4, .inl (cI, 60, .inl fc)), (df, .inl (cI, 61, .inl wy2)), (dg, .inl (cZ, 61, .inl sn2))] H → va_D A [(md, .inr (5, [.int th, .int (nI n), .ref d1, .ref d2, .ref d3, .ref d4, .int (nI wt), .int isS, .int (nI nr), .int (nI ns), .ref d5, .ref d6, .ref d7, .ref d8, .ref d9, .ref da, .ref db, .int sta, .int nx, .int (nI sp), .int (nI cl2), .int (nI np), .ref dc, .ref dd, .ref de, .int (nI ww2), .ref df, .ref dg, .ref dh])), (d1, .inl (cI, 60, .inl fk)), (d2, .inl (cI, 60, .inl fa)), (d3, .inl (cI, 60, .inl fb)), (d4, .inl (cI, 60, .inl fc)), (df, .inl (cI, 61, .inl wy2)), (dg, .inl (cZ, 61, .inl sn2))] → va_S A s.heap H locs → ∀ ls : Array Slot, lv_has ls 5 [(0, .ref md), (1, .int (nI fr)), (2, .int (nI v)), (3, .int (nI i))] → W p l e (rmF 1 22) s m ([.ref md, .int (nI fr), .int (nI v)] : List Value).toArray below meth c H locs 0 0 (MQ below (va_Qi (fun q w2 => ∃ ww2 : Nat, ∃ wy2 : Nat → Int32, ∃ sn2 : Nat → Int32, q = (b2i (hasB (flw n fk fa fb fc 61 (fun _ => 0) 1) (nI fr) (nI v))) ∧ w2 = [(md, .inr (5, [.int th, .int (nI n), .ref d1, .ref d2, .ref d3, .ref d4, .int (nI wt), .int isS, .int (nI nr), .int (nI ns), .ref d5, .ref d6, .ref d7, .ref d8, .ref d9, .ref da, .ref db, .int sta, .int nx, .int (nI sp), .int (nI cl2), .int (nI np), .ref dc, .ref dd, .ref de, .int (nI ww2), .ref df, .ref dg, .ref dh])), (d1, .inl (cI, 60, .inl fk)), (d2, .inl (cI, 60, .inl fa)), (d3, .inl (cI, 60, .inl fb)), (d4, .inl (cI, 60, .inl fc)), (df, .inl (cI, 61, .inl wy2)), (dg, .inl (cZ, 61, .inl sn2))]) (sm_B (dC, dI) smC [(cI, .int), (cZ, .boolean)] A) A) ([.ref md, .int (nI fr), .int (nI v)] : List Value).toArray s 0 0 A) (F0 m 33 ls []) := by
          intro N_33
          induction N_33 with
          | zero => intro i ww2 wy2 sn2 _ z; exact absurd z (Nat.not_lt_zero _)
          | succ N_33 ih_33 =>
            intro i ww2 wy2 sn2 hbf m_33 H locs hP hD hS ls hl
            have hwn := bf_ways hbf
            have hiw0 : i ≤ ww2 := hbf.2.2.2.2.2.2.2.1
            refine lv_iload_n hx hb d_Mod_lives_33 rfl (lv_at hl 3 rfl) ?_
            refine lv_aload_n hx hb d_Mod_lives_34 rfl (lv_at hl 0 rfl) ?_
            refine va_get (D := (dC, dI)) (ci := 5) (v := .int (nI ww2)) (C := R_Mod) (T := T_Mod) (N := 29) hx hb ht i_Mod hown hK hP 0 rfl rfl 25 (by decide) (ht _ mw_631) (fun _ h9 => h9) rfl d_Mod_lives_35 ?_
            refine lv_icmp_ge (tgt := 158) hx hb d_Mod_lives_38 (by decide) (fun c_38 => ?_) (fun c_38 => ?_)
            · skip
              have f_38 : ww2 ≤ i := (nI_leI (a := ww2) (b := i) (by first | omega | decide) (by first | omega | decide)).mp c_38
              refine lv_iconst (v := 0) hx hb d_Mod_lives_158 (by decide) ?_
              refine sm_rz (v := (0 : Int32)) (ws := [(md, .inr (5, [.int th, .int (nI n), .ref d1, .ref d2, .ref d3, .ref d4, .int (nI wt), .int isS, .int (nI nr), .int (nI ns), .ref d5, .ref d6, .ref d7, .ref d8, .ref d9, .ref da, .ref db, .int sta, .int nx, .int (nI sp), .int (nI cl2), .int (nI np), .ref dc, .ref dd, .ref de, .int (nI ww2), .ref df, .ref dg, .ref dh])), (d1, .inl (cI, 60, .inl fk)), (d2, .inl (cI, 60, .inl fa)), (d3, .inl (cI, 60, .inl fb)), (d4, .inl (cI, 60, .inl fc)), (df, .inl (cI, 61, .inl wy2)), (dg, .inl (cZ, 61, .inl sn2))]) hx hb hr hlocks hK (hP.sub [0, 1, 2, 3, 4, 5, 6] rfl) (hD.sub [0, 1, 2, 3, 4, 5, 6] (by decide) rfl) hS (by decide) ?_ d_Mod_lives_159
              obtain rfl : i = ww2 := by omega
              exact ⟨i, wy2, sn2, by rw [lv_f hn hok hv24 hfr (bf_end hfr hbf)]; rfl, rfl⟩
            · skip
              have f_38 : ¬ ww2 ≤ i := fun z => c_38 ((nI_leI (a := ww2) (b := i) (by first | omega | decide) (by first | omega | decide)).mpr z)
              have hiw : i < ww2 := by omega
              refine lv_aload_n hx hb d_Mod_lives_41 rfl (lv_at hl 0 rfl) ?_
              refine va_get (D := (dC, dI)) (ci := 5) (v := .ref df) (C := R_Mod) (T := T_Mod) (N := 29) hx hb ht i_Mod hown hK hP 0 rfl rfl 26 (by decide) (ht _ mw_632) (fun _ h9 => h9) rfl d_Mod_lives_42 ?_
              refine lv_iload_n hx hb d_Mod_lives_45 rfl (lv_at hl 3 rfl) ?_
              refine sm_iald (j := i) hx hb hK hP 5 0 rfl rfl (vp_in_nI (by first | omega | assumption) (by first | decide | omega)) (nI_clamp (by first | omega | (have := sm_lt31; omega))) d_Mod_lives_46 ?_
              obtain ⟨t, ht2, et, hs1⟩ := hbf.2.2.1 i (by omega)
              refine sm_re et ?_
              refine lv_istore (lv' := [(4, .int (nI t)), (0, .ref md), (1, .int (nI fr)), (2, .int (nI v)), (3, .int (nI i))]) hx hb d_Mod_lives_47 hl (by decide) rfl (fun ls hl => ?_)
              refine lv_aload_n hx hb d_Mod_lives_49 rfl (lv_at hl 1 rfl) ?_
              refine lv_iload hx hb d_Mod_lives_50 (lv_at hl 0 rfl) ?_
              refine lv_iload_n hx hb d_Mod_lives_52 rfl (lv_at hl 3 rfl) ?_
              refine sm_goi (wc := [(md, .inr (5, [.int th, .int (nI n), .ref d1, .ref d2, .ref d3, .ref d4, .int (nI wt), .int isS, .int (nI nr), .int (nI ns), .ref d5, .ref d6, .ref d7, .ref d8, .ref d9, .ref da, .ref db, .int sta, .int nx, .int (nI sp), .int (nI cl2), .int (nI np), .ref dc, .ref dd, .ref de, .int (nI ww2), .ref df, .ref dg, .ref dh])), (d1, .inl (cI, 60, .inl fk)), (d2, .inl (cI, 60, .inl fa)), (d3, .inl (cI, 60, .inl fb)), (d4, .inl (cI, 60, .inl fc))]) (wr := [(df, .inl (cI, 61, .inl wy2)), (dg, .inl (cZ, 61, .inl sn2))]) (va_runV (As := [.int (nI t), .int (nI v)]) (rest := []) ⟨hx, hb, hml, hown, ht⟩ ((c_Mod_reads (l := l) (dC := dC) (dI := dI) (cI := cI) (cZ := cZ) (md := md) (d1 := d1) (d2 := d2) (d3 := d3) (d4 := d4) (d5 := d5) (d6 := d6) (d7 := d7) (d8 := d8) (d9 := d9) (da := da) (db := db) (dc := dc) (dd := dd) (de := de) (df := df) (dg := dg) (dh := dh) (n := n) (wt := wt) (nr := nr) (ns := ns) (sp := sp) (cl2 := cl2) (np := np) (ww := ww2) (th := th) (isS := isS) (sta := sta) (nx := nx) (fk := fk) (fa := fa) (fb := fb) (fc := fc) (t := t) (v := nI v) (by omega)).at H.size) (sm_cV 2 ht mw_735 mw_6 mw_732 mw_734 mp_24 rfl rfl (by decide +kernel) ⟨Nat.le_of_ble_eq_true rfl, Nat.le_of_ble_eq_true rfl⟩) (sm_preV (ci := 5) hN hK hP hD [0, 1, 2, 3, 4] rfl rfl (by decide) 0 rfl rfl) rfl rfl hl.1 rfl (lv_room (Nat.le_of_ble_eq_true rfl)) d_Mod_lives_53 ⟨Nat.zero_le _, Nat.zero_le _⟩) hP hD hS hA [0, 1, 2, 3, 4] [5, 6] rfl rfl (by decide) (by decide) (fun r_53 w_53 H locs q_53 hP hD hS => ?_)
              obtain ⟨rfl, rfl⟩ := q_53
              have hP : va_P (dC, dI) smC [(df, .inl (cI, 61, .inl wy2)), (dg, .inl (cZ, 61, .inl sn2)), (md, .inr (5, [.int th, .int (nI n), .ref d1, .ref d2, .ref d3, .ref d4, .int (nI wt), .int isS, .int (nI nr), .int (nI ns), .ref d5, .ref d6, .ref d7, .ref d8, .ref d9, .ref da, .ref db, .int sta, .int nx, .int (nI sp), .int (nI cl2), .int (nI np), .ref dc, .ref dd, .ref de, .int (nI ww2), .ref df, .ref dg, .ref dh])), (d1, .inl (cI, 60, .inl fk)), (d2, .inl (cI, 60, .inl fa)), (d3, .inl (cI, 60, .inl fb)), (d4, .inl (cI, 60, .inl fc))] H := hP
              have hD : va_D A [(df, .inl (cI, 61, .inl wy2)), (dg, .inl (cZ, 61, .inl sn2)), (md, .inr (5, [.int th, .int (nI n), .ref d1, .ref d2, .ref d3, .ref d4, .int (nI wt), .int isS, .int (nI nr), .int (nI ns), .ref d5, .ref d6, .ref d7, .ref d8, .ref d9, .ref da, .ref db, .int sta, .int nx, .int (nI sp), .int (nI cl2), .int (nI np), .ref dc, .ref dd, .ref de, .int (nI ww2), .ref df, .ref dg, .ref dh])), (d1, .inl (cI, 60, .inl fk)), (d2, .inl (cI, 60, .inl fa)), (d3, .inl (cI, 60, .inl fb)), (d4, .inl (cI, 60, .inl fc))] := hD
              refine lv_if_eq (tgt := 61) hx hb d_Mod_lives_56 (by decide) (fun c_56 => ?_) (fun c_56 => ?_)
              · skip
                have e_56 : (mrd fk fa fb fc t (nI v)) = false := b2i_eq0 c_56
                refine lv_aload_n hx hb d_Mod_lives_61 rfl (lv_at hl 1 rfl) ?_
                refine lv_iload hx hb d_Mod_lives_62 (lv_at hl 0 rfl) ?_
                refine lv_iload_n hx hb d_Mod_lives_64 rfl (lv_at hl 3 rfl) ?_
                refine sm_goi (wc := [(md, .inr (5, [.int th, .int (nI n), .ref d1, .ref d2, .ref d3, .ref d4, .int (nI wt), .int isS, .int (nI nr), .int (nI ns), .ref d5, .ref d6, .ref d7, .ref d8, .ref d9, .ref da, .ref db, .int sta, .int nx, .int (nI sp), .int (nI cl2), .int (nI np), .ref dc, .ref dd, .ref de, .int (nI ww2), .ref df, .ref dg, .ref dh])), (d1, .inl (cI, 60, .inl fk)), (d2, .inl (cI, 60, .inl fa))]) (wr := [(df, .inl (cI, 61, .inl wy2)), (dg, .inl (cZ, 61, .inl sn2)), (d3, .inl (cI, 60, .inl fb)), (d4, .inl (cI, 60, .inl fc))]) (va_runV (As := [.int (nI t), .int (nI v)]) (rest := []) ⟨hx, hb, hml, hown, ht⟩ ((c_Mod_sets (l := l) (dC := dC) (dI := dI) (cI := cI) (cZ := cZ) (md := md) (d1 := d1) (d2 := d2) (d3 := d3) (d4 := d4) (d5 := d5) (d6 := d6) (d7 := d7) (d8 := d8) (d9 := d9) (da := da) (db := db) (dc := dc) (dd := dd) (de := de) (df := df) (dg := dg) (dh := dh) (n := n) (wt := wt) (nr := nr) (ns := ns) (sp := sp) (cl2 := cl2) (np := np) (ww := ww2) (th := th) (isS := isS) (sta := sta) (nx := nx) (fk := fk) (fa := fa) (t := t) (v := nI v) (by omega)).at H.size) (sm_cV 2 ht mw_739 mw_6 mw_736 mw_738 mp_25 rfl rfl (by decide +kernel) ⟨Nat.le_of_ble_eq_true rfl, Nat.le_of_ble_eq_true rfl⟩) (sm_preV (ci := 5) hN hK hP hD [2, 3, 4] rfl rfl (by decide) 2 rfl rfl) rfl rfl hl.1 rfl (lv_room (Nat.le_of_ble_eq_true rfl)) d_Mod_lives_65 ⟨Nat.zero_le _, Nat.zero_le _⟩) hP hD hS hA [2, 3, 4] [0, 1, 5, 6] rfl rfl (by decide) (by decide) (fun r_65 w_65 H locs q_65 hP hD hS => ?_)
                obtain ⟨rfl, rfl⟩ := q_65
                have hP : va_P (dC, dI) smC [(df, .inl (cI, 61, .inl wy2)), (dg, .inl (cZ, 61, .inl sn2)), (d3, .inl (cI, 60, .inl fb)), (d4, .inl (cI, 60, .inl fc)), (md, .inr (5, [.int th, .int (nI n), .ref d1, .ref d2, .ref d3, .ref d4, .int (nI wt), .int isS, .int (nI nr), .int (nI ns), .ref d5, .ref d6, .ref d7, .ref d8, .ref d9, .ref da, .ref db, .int sta, .int nx, .int (nI sp), .int (nI cl2), .int (nI np), .ref dc, .ref dd, .ref de, .int (nI ww2), .ref df, .ref dg, .ref dh])), (d1, .inl (cI, 60, .inl fk)), (d2, .inl (cI, 60, .inl fa))] H := hP
                have hD : va_D A [(df, .inl (cI, 61, .inl wy2)), (dg, .inl (cZ, 61, .inl sn2)), (d3, .inl (cI, 60, .inl fb)), (d4, .inl (cI, 60, .inl fc)), (md, .inr (5, [.int th, .int (nI n), .ref d1, .ref d2, .ref d3, .ref d4, .int (nI wt), .int isS, .int (nI nr), .int (nI ns), .ref d5, .ref d6, .ref d7, .ref d8, .ref d9, .ref da, .ref db, .int sta, .int nx, .int (nI sp), .int (nI cl2), .int (nI np), .ref dc, .ref dd, .ref de, .int (nI ww2), .ref df, .ref dg, .ref dh])), (d1, .inl (cI, 60, .inl fk)), (d2, .inl (cI, 60, .inl fa))] := hD
                refine lv_if_eq (tgt := 74) hx hb d_Mod_lives_68 (by decide) (fun c_68 => ?_) (fun c_68 => ?_)
                · skip
                  have e_68 : (mst fk fa t (nI v)) = false := b2i_eq0 c_68
                  have hst : stB n fk fa v t = false := by rw [← mst_st hn hok ht2 hv24]; exact e_68
                  refine lv_aload_n hx hb d_Mod_lives_74 rfl (lv_at hl 1 rfl) ?_
                  refine va_get (D := (dC, dI)) (ci := 5) (v := .ref d1) (C := R_Mod) (T := T_Mod) (N := 29) hx hb ht i_Mod hown hK hP 4 rfl rfl 2 (by decide) (ht _ mw_608) (fun _ h9 => h9) rfl d_Mod_lives_75 ?_
                  refine lv_iload hx hb d_Mod_lives_78 (lv_at hl 0 rfl) ?_
                  refine sm_iald (j := t) hx hb hK hP 5 0 rfl rfl (vp_in_nI (by first | omega | assumption) (by first | decide | omega)) (nI_clamp (by first | omega | (have := sm_lt31; omega))) d_Mod_lives_80 ?_
                  refine lv_bipush (v := 7) hx hb d_Mod_lives_81 (by decide) ?_
                  refine lv_icmp_ne (tgt := 97) hx hb d_Mod_lives_83 (by decide) (fun c_83 => ?_) (fun c_83 => ?_)
                  · skip
                    refine lv_aload_n hx hb d_Mod_lives_97 rfl (lv_at hl 1 rfl) ?_
                    refine va_get (D := (dC, dI)) (ci := 5) (v := .ref d1) (C := R_Mod) (T := T_Mod) (N := 29) hx hb ht i_Mod hown hK hP 4 rfl rfl 2 (by decide) (ht _ mw_608) (fun _ h9 => h9) rfl d_Mod_lives_98 ?_
                    refine lv_iload hx hb d_Mod_lives_101 (lv_at hl 0 rfl) ?_
                    refine sm_iald (j := t) hx hb hK hP 5 0 rfl rfl (vp_in_nI (by first | omega | assumption) (by first | decide | omega)) (nI_clamp (by first | omega | (have := sm_lt31; omega))) d_Mod_lives_103 ?_
                    refine lv_bipush (v := 8) hx hb d_Mod_lives_104 (by decide) ?_
                    refine lv_icmp_ne (tgt := 120) hx hb d_Mod_lives_106 (by decide) (fun c_106 => ?_) (fun c_106 => ?_)
                    · skip
                      refine lv_aload_n hx hb d_Mod_lives_120 rfl (lv_at hl 1 rfl) ?_
                      refine va_get (D := (dC, dI)) (ci := 5) (v := .ref d1) (C := R_Mod) (T := T_Mod) (N := 29) hx hb ht i_Mod hown hK hP 4 rfl rfl 2 (by decide) (ht _ mw_608) (fun _ h9 => h9) rfl d_Mod_lives_121 ?_
                      refine lv_iload hx hb d_Mod_lives_124 (lv_at hl 0 rfl) ?_
                      refine sm_iald (j := t) hx hb hK hP 5 0 rfl rfl (vp_in_nI (by first | omega | assumption) (by first | decide | omega)) (nI_clamp (by first | omega | (have := sm_lt31; omega))) d_Mod_lives_126 ?_
                      refine lv_bipush (v := 7) hx hb d_Mod_lives_127 (by decide) ?_
                      refine lv_icmp_eq (tgt := 152) hx hb d_Mod_lives_129 (by decide) (fun c_129 => ?_) (fun c_129 => ?_)
                      · skip
                        exact absurd c_129 c_83
                      · skip
                        refine lv_aload_n hx hb d_Mod_lives_132 rfl (lv_at hl 1 rfl) ?_
                        refine va_get (D := (dC, dI)) (ci := 5) (v := .ref d1) (C := R_Mod) (T := T_Mod) (N := 29) hx hb ht i_Mod hown hK hP 4 rfl rfl 2 (by decide) (ht _ mw_608) (fun _ h9 => h9) rfl d_Mod_lives_133 ?_
                        refine lv_iload hx hb d_Mod_lives_136 (lv_at hl 0 rfl) ?_
                        refine sm_iald (j := t) hx hb hK hP 5 0 rfl rfl (vp_in_nI (by first | omega | assumption) (by first | decide | omega)) (nI_clamp (by first | omega | (have := sm_lt31; omega))) d_Mod_lives_138 ?_
                        refine lv_bipush (v := 11) hx hb d_Mod_lives_139 (by decide) ?_
                        refine lv_icmp_eq (tgt := 152) hx hb d_Mod_lives_141 (by decide) (fun c_141 => ?_) (fun c_141 => ?_)
                        · skip
                          refine lv_iinc (v := nI (i + 1)) (lv' := [(3, .int (nI (i + 1))), (4, .int (nI t)), (0, .ref md), (1, .int (nI fr)), (2, .int (nI v))]) hx hb d_Mod_lives_152 hl (k := 4) rfl (nI_add i 1) (by decide) rfl (fun ls hl => ?_)
                          refine lv_goto (tgt := 33) hx hb d_Mod_lives_155 (by decide) ?_
                          exact ih_33 (i + 1) ww2 wy2 sn2 (bf_next hn hbf hiw ht2 et (by rw [← mrd_rd hn ht2 hv24]; exact e_56) (Or.inr (fun w hs hw => absurd c_141 (sucd c_83 c_106 hs).1))) (by omega) _ _ (hP.sub [4, 5, 6, 2, 3, 0, 1] rfl) (hD.sub [4, 5, 6, 2, 3, 0, 1] (by decide) rfl) hS _ (lv_sub hl [2, 3, 4, 0] rfl)
                        · skip
                          refine lv_aload_n hx hb d_Mod_lives_144 rfl (lv_at hl 1 rfl) ?_
                          refine lv_iload hx hb d_Mod_lives_145 (lv_at hl 0 rfl) ?_
                          refine lv_iconst (v := 1) hx hb d_Mod_lives_147 (by decide) ?_
                          refine lv_iadd hx hb d_Mod_lives_148 ?_
                          refine sm_re (nI_add t 1) ?_
                          refine sm_gov (wc := [(md, .inr (5, [.int th, .int (nI n), .ref d1, .ref d2, .ref d3, .ref d4, .int (nI wt), .int isS, .int (nI nr), .int (nI ns), .ref d5, .ref d6, .ref d7, .ref d8, .ref d9, .ref da, .ref db, .int sta, .int nx, .int (nI sp), .int (nI cl2), .int (nI np), .ref dc, .ref dd, .ref de, .int (nI ww2), .ref df, .ref dg, .ref dh])), (df, .inl (cI, 61, .inl wy2)), (dg, .inl (cZ, 61, .inl sn2))]) (wr := [(d3, .inl (cI, 60, .inl fb)), (d4, .inl (cI, 60, .inl fc)), (d1, .inl (cI, 60, .inl fk)), (d2, .inl (cI, 60, .inl fa))]) (va_runV (As := [.int (nI (t + 1))]) (rest := []) ⟨hx, hb, hml, hown, ht⟩ ((c_Mod_goTo (l := l) (dC := dC) (dI := dI) (cI := cI) (cZ := cZ) (md := md) (d1 := d1) (d2 := d2) (d3 := d3) (d4 := d4) (d5 := d5) (d6 := d6) (d7 := d7) (d8 := d8) (d9 := d9) (da := da) (db := db) (dc := dc) (dd := dd) (de := de) (df := df) (dg := dg) (dh := dh) (n := n) (wt := wt) (nr := nr) (ns := ns) (sp := sp) (cl2 := cl2) (np := np) (ww := ww2) (th := th) (isS := isS) (sta := sta) (nx := nx) (wy := wy2) (sn := sn2) (u := t + 1) hn (by omega) (fun _ _ => by omega)).at H.size) (sm_cV 1 ht mw_731 mw_6 mw_728 mw_730 mp_23 rfl rfl (by decide +kernel) ⟨Nat.le_of_ble_eq_true rfl, Nat.le_of_ble_eq_true rfl⟩) (sm_preV (ci := 5) hN hK hP hD [4, 0, 1] rfl rfl (by decide) 4 rfl rfl) rfl rfl hl.1 rfl (lv_room (Nat.le_of_ble_eq_true rfl)) d_Mod_lives_149 ⟨Nat.zero_le _, Nat.zero_le _⟩) hP hD hS hA [4, 0, 1] [2, 3, 5, 6] rfl rfl (by decide) (by decide) (fun w_149 H locs q_149 hP hD hS => ?_)
                          obtain rfl := q_149
                          have hP : va_P (dC, dI) smC [(d3, .inl (cI, 60, .inl fb)), (d4, .inl (cI, 60, .inl fc)), (d1, .inl (cI, 60, .inl fk)), (d2, .inl (cI, 60, .inl fa)), (md, .inr (5, [.int th, .int (nI n), .ref d1, .ref d2, .ref d3, .ref d4, .int (nI wt), .int isS, .int (nI nr), .int (nI ns), .ref d5, .ref d6, .ref d7, .ref d8, .ref d9, .ref da, .ref db, .int sta, .int nx, .int (nI sp), .int (nI cl2), .int (nI np), .ref dc, .ref dd, .ref de, .int (nI ((gtS n ww2 wy2 sn2 (t + 1)).1)), .ref df, .ref dg, .ref dh])), (df, .inl (cI, 61, .inl ((gtS n ww2 wy2 sn2 (t + 1)).2.1))), (dg, .inl (cZ, 61, .inl ((gtS n ww2 wy2 sn2 (t + 1)).2.2)))] H := hP
                          have hD : va_D A [(d3, .inl (cI, 60, .inl fb)), (d4, .inl (cI, 60, .inl fc)), (d1, .inl (cI, 60, .inl fk)), (d2, .inl (cI, 60, .inl fa)), (md, .inr (5, [.int th, .int (nI n), .ref d1, .ref d2, .ref d3, .ref d4, .int (nI wt), .int isS, .int (nI nr), .int (nI ns), .ref d5, .ref d6, .ref d7, .ref d8, .ref d9, .ref da, .ref db, .int sta, .int nx, .int (nI sp), .int (nI cl2), .int (nI np), .ref dc, .ref dd, .ref de, .int (nI ((gtS n ww2 wy2 sn2 (t + 1)).1)), .ref df, .ref dg, .ref dh])), (df, .inl (cI, 61, .inl ((gtS n ww2 wy2 sn2 (t + 1)).2.1))), (dg, .inl (cZ, 61, .inl ((gtS n ww2 wy2 sn2 (t + 1)).2.2)))] := hD
                          obtain ⟨hbf, hgo3, hup3, hwk, hle⟩ := bf_go hn hbf (u := (t + 1)) (bf_suc hbf ht2 hs1 hst (Or.inr (Or.inr ⟨c_83, c_106, c_141, rfl⟩)))
                          have et := (hwk i hiw).trans et
                          have hs1 := hup3 t hs1
                          have hiw := Nat.lt_of_lt_of_le hiw hle
                          have hwn := bf_ways hbf
                          refine lv_iinc (v := nI (i + 1)) (lv' := [(3, .int (nI (i + 1))), (4, .int (nI t)), (0, .ref md), (1, .int (nI fr)), (2, .int (nI v))]) hx hb d_Mod_lives_152 hl (k := 4) rfl (nI_add i 1) (by decide) rfl (fun ls hl => ?_)
                          refine lv_goto (tgt := 33) hx hb d_Mod_lives_155 (by decide) ?_
                          exact ih_33 (i + 1) ((gtS n ww2 wy2 sn2 (t + 1)).1) ((gtS n ww2 wy2 sn2 (t + 1)).2.1) ((gtS n ww2 wy2 sn2 (t + 1)).2.2) (bf_next hn hbf hiw ht2 et (by rw [← mrd_rd hn ht2 hv24]; exact e_56) (Or.inr (fun w hs hw => by rw [(sucd c_83 c_106 hs).2] at hw ⊢; exact hgo3 hw))) (by omega) _ _ (hP.sub [4, 2, 3, 0, 1, 5, 6] rfl) (hD.sub [4, 2, 3, 0, 1, 5, 6] (by decide) rfl) hS _ (lv_sub hl [2, 3, 4, 0] rfl)
                    · skip
                      refine lv_aload_n hx hb d_Mod_lives_109 rfl (lv_at hl 1 rfl) ?_
                      refine lv_aload_n hx hb d_Mod_lives_110 rfl (lv_at hl 1 rfl) ?_
                      refine va_get (D := (dC, dI)) (ci := 5) (v := .ref d3) (C := R_Mod) (T := T_Mod) (N := 29) hx hb ht i_Mod hown hK hP 4 rfl rfl 4 (by decide) (ht _ mw_610) (fun _ h9 => h9) rfl d_Mod_lives_111 ?_
                      refine lv_iload hx hb d_Mod_lives_114 (lv_at hl 0 rfl) ?_
                      refine sm_iald (j := t) hx hb hK hP 2 0 rfl rfl (vp_in_nI (by first | omega | assumption) (by first | decide | omega)) (nI_clamp (by first | omega | (have := sm_lt31; omega))) d_Mod_lives_116 ?_
                      obtain ⟨u2, hu2, eu2⟩ := inB_j ((ok8 (hok t ht2) c_106).2) (by decide)
                      refine sm_re eu2 ?_
                      refine sm_gov (wc := [(md, .inr (5, [.int th, .int (nI n), .ref d1, .ref d2, .ref d3, .ref d4, .int (nI wt), .int isS, .int (nI nr), .int (nI ns), .ref d5, .ref d6, .ref d7, .ref d8, .ref d9, .ref da, .ref db, .int sta, .int nx, .int (nI sp), .int (nI cl2), .int (nI np), .ref dc, .ref dd, .ref de, .int (nI ww2), .ref df, .ref dg, .ref dh])), (df, .inl (cI, 61, .inl wy2)), (dg, .inl (cZ, 61, .inl sn2))]) (wr := [(d3, .inl (cI, 60, .inl fb)), (d4, .inl (cI, 60, .inl fc)), (d1, .inl (cI, 60, .inl fk)), (d2, .inl (cI, 60, .inl fa))]) (va_runV (As := [.int (nI u2)]) (rest := []) ⟨hx, hb, hml, hown, ht⟩ ((c_Mod_goTo (l := l) (dC := dC) (dI := dI) (cI := cI) (cZ := cZ) (md := md) (d1 := d1) (d2 := d2) (d3 := d3) (d4 := d4) (d5 := d5) (d6 := d6) (d7 := d7) (d8 := d8) (d9 := d9) (da := da) (db := db) (dc := dc) (dd := dd) (de := de) (df := df) (dg := dg) (dh := dh) (n := n) (wt := wt) (nr := nr) (ns := ns) (sp := sp) (cl2 := cl2) (np := np) (ww := ww2) (th := th) (isS := isS) (sta := sta) (nx := nx) (wy := wy2) (sn := sn2) (u := u2) hn hu2 (fun _ _ => by omega)).at H.size) (sm_cV 1 ht mw_731 mw_6 mw_728 mw_730 mp_23 rfl rfl (by decide +kernel) ⟨Nat.le_of_ble_eq_true rfl, Nat.le_of_ble_eq_true rfl⟩) (sm_preV (ci := 5) hN hK hP hD [4, 0, 1] rfl rfl (by decide) 4 rfl rfl) rfl rfl hl.1 rfl (lv_room (Nat.le_of_ble_eq_true rfl)) d_Mod_lives_117 ⟨Nat.zero_le _, Nat.zero_le _⟩) hP hD hS hA [4, 0, 1] [2, 3, 5, 6] rfl rfl (by decide) (by decide) (fun w_117 H locs q_117 hP hD hS => ?_)
                      obtain rfl := q_117
                      have hP : va_P (dC, dI) smC [(d3, .inl (cI, 60, .inl fb)), (d4, .inl (cI, 60, .inl fc)), (d1, .inl (cI, 60, .inl fk)), (d2, .inl (cI, 60, .inl fa)), (md, .inr (5, [.int th, .int (nI n), .ref d1, .ref d2, .ref d3, .ref d4, .int (nI wt), .int isS, .int (nI nr), .int (nI ns), .ref d5, .ref d6, .ref d7, .ref d8, .ref d9, .ref da, .ref db, .int sta, .int nx, .int (nI sp), .int (nI cl2), .int (nI np), .ref dc, .ref dd, .ref de, .int (nI ((gtS n ww2 wy2 sn2 u2).1)), .ref df, .ref dg, .ref dh])), (df, .inl (cI, 61, .inl ((gtS n ww2 wy2 sn2 u2).2.1))), (dg, .inl (cZ, 61, .inl ((gtS n ww2 wy2 sn2 u2).2.2)))] H := hP
                      have hD : va_D A [(d3, .inl (cI, 60, .inl fb)), (d4, .inl (cI, 60, .inl fc)), (d1, .inl (cI, 60, .inl fk)), (d2, .inl (cI, 60, .inl fa)), (md, .inr (5, [.int th, .int (nI n), .ref d1, .ref d2, .ref d3, .ref d4, .int (nI wt), .int isS, .int (nI nr), .int (nI ns), .ref d5, .ref d6, .ref d7, .ref d8, .ref d9, .ref da, .ref db, .int sta, .int nx, .int (nI sp), .int (nI cl2), .int (nI np), .ref dc, .ref dd, .ref de, .int (nI ((gtS n ww2 wy2 sn2 u2).1)), .ref df, .ref dg, .ref dh])), (df, .inl (cI, 61, .inl ((gtS n ww2 wy2 sn2 u2).2.1))), (dg, .inl (cZ, 61, .inl ((gtS n ww2 wy2 sn2 u2).2.2)))] := hD
                      obtain ⟨hbf, hgo2, hup2, hwk, hle⟩ := bf_go hn hbf (u := u2) (bf_suc hbf ht2 hs1 hst (suc8 c_106 eu2 hu2))
                      have et := (hwk i hiw).trans et
                      have hs1 := hup2 t hs1
                      have hiw := Nat.lt_of_lt_of_le hiw hle
                      have hwn := bf_ways hbf
                      refine lv_aload_n hx hb d_Mod_lives_120 rfl (lv_at hl 1 rfl) ?_
                      refine va_get (D := (dC, dI)) (ci := 5) (v := .ref d1) (C := R_Mod) (T := T_Mod) (N := 29) hx hb ht i_Mod hown hK hP 4 rfl rfl 2 (by decide) (ht _ mw_608) (fun _ h9 => h9) rfl d_Mod_lives_121 ?_
                      refine lv_iload hx hb d_Mod_lives_124 (lv_at hl 0 rfl) ?_
                      refine sm_iald (j := t) hx hb hK hP 2 0 rfl rfl (vp_in_nI (by first | omega | assumption) (by first | decide | omega)) (nI_clamp (by first | omega | (have := sm_lt31; omega))) d_Mod_lives_126 ?_
                      refine lv_bipush (v := 7) hx hb d_Mod_lives_127 (by decide) ?_
                      refine lv_icmp_eq (tgt := 152) hx hb d_Mod_lives_129 (by decide) (fun c_129 => ?_) (fun c_129 => ?_)
                      · skip
                        exact absurd c_129 c_83
                      · skip
                        refine lv_aload_n hx hb d_Mod_lives_132 rfl (lv_at hl 1 rfl) ?_
                        refine va_get (D := (dC, dI)) (ci := 5) (v := .ref d1) (C := R_Mod) (T := T_Mod) (N := 29) hx hb ht i_Mod hown hK hP 4 rfl rfl 2 (by decide) (ht _ mw_608) (fun _ h9 => h9) rfl d_Mod_lives_133 ?_
                        refine lv_iload hx hb d_Mod_lives_136 (lv_at hl 0 rfl) ?_
                        refine sm_iald (j := t) hx hb hK hP 2 0 rfl rfl (vp_in_nI (by first | omega | assumption) (by first | decide | omega)) (nI_clamp (by first | omega | (have := sm_lt31; omega))) d_Mod_lives_138 ?_
                        refine lv_bipush (v := 11) hx hb d_Mod_lives_139 (by decide) ?_
                        refine lv_icmp_eq (tgt := 152) hx hb d_Mod_lives_141 (by decide) (fun c_141 => ?_) (fun c_141 => ?_)
                        · skip
                          exact absurd (c_106.symm.trans c_141) (by decide)
                        · skip
                          refine lv_aload_n hx hb d_Mod_lives_144 rfl (lv_at hl 1 rfl) ?_
                          refine lv_iload hx hb d_Mod_lives_145 (lv_at hl 0 rfl) ?_
                          refine lv_iconst (v := 1) hx hb d_Mod_lives_147 (by decide) ?_
                          refine lv_iadd hx hb d_Mod_lives_148 ?_
                          refine sm_re (nI_add t 1) ?_
                          refine sm_gov (wc := [(md, .inr (5, [.int th, .int (nI n), .ref d1, .ref d2, .ref d3, .ref d4, .int (nI wt), .int isS, .int (nI nr), .int (nI ns), .ref d5, .ref d6, .ref d7, .ref d8, .ref d9, .ref da, .ref db, .int sta, .int nx, .int (nI sp), .int (nI cl2), .int (nI np), .ref dc, .ref dd, .ref de, .int (nI ((gtS n ww2 wy2 sn2 u2).1)), .ref df, .ref dg, .ref dh])), (df, .inl (cI, 61, .inl ((gtS n ww2 wy2 sn2 u2).2.1))), (dg, .inl (cZ, 61, .inl ((gtS n ww2 wy2 sn2 u2).2.2)))]) (wr := [(d3, .inl (cI, 60, .inl fb)), (d4, .inl (cI, 60, .inl fc)), (d1, .inl (cI, 60, .inl fk)), (d2, .inl (cI, 60, .inl fa))]) (va_runV (As := [.int (nI (t + 1))]) (rest := []) ⟨hx, hb, hml, hown, ht⟩ ((c_Mod_goTo (l := l) (dC := dC) (dI := dI) (cI := cI) (cZ := cZ) (md := md) (d1 := d1) (d2 := d2) (d3 := d3) (d4 := d4) (d5 := d5) (d6 := d6) (d7 := d7) (d8 := d8) (d9 := d9) (da := da) (db := db) (dc := dc) (dd := dd) (de := de) (df := df) (dg := dg) (dh := dh) (n := n) (wt := wt) (nr := nr) (ns := ns) (sp := sp) (cl2 := cl2) (np := np) (ww := (gtS n ww2 wy2 sn2 u2).1) (th := th) (isS := isS) (sta := sta) (nx := nx) (wy := (gtS n ww2 wy2 sn2 u2).2.1) (sn := (gtS n ww2 wy2 sn2 u2).2.2) (u := t + 1) hn (by omega) (fun _ _ => by omega)).at H.size) (sm_cV 1 ht mw_731 mw_6 mw_728 mw_730 mp_23 rfl rfl (by decide +kernel) ⟨Nat.le_of_ble_eq_true rfl, Nat.le_of_ble_eq_true rfl⟩) (sm_preV (ci := 5) hN hK hP hD [4, 5, 6] rfl rfl (by decide) 4 rfl rfl) rfl rfl hl.1 rfl (lv_room (Nat.le_of_ble_eq_true rfl)) d_Mod_lives_149 ⟨Nat.zero_le _, Nat.zero_le _⟩) hP hD hS hA [4, 5, 6] [0, 1, 2, 3] rfl rfl (by decide) (by decide) (fun w_149 H locs q_149 hP hD hS => ?_)
                          obtain rfl := q_149
                          have hP : va_P (dC, dI) smC [(d3, .inl (cI, 60, .inl fb)), (d4, .inl (cI, 60, .inl fc)), (d1, .inl (cI, 60, .inl fk)), (d2, .inl (cI, 60, .inl fa)), (md, .inr (5, [.int th, .int (nI n), .ref d1, .ref d2, .ref d3, .ref d4, .int (nI wt), .int isS, .int (nI nr), .int (nI ns), .ref d5, .ref d6, .ref d7, .ref d8, .ref d9, .ref da, .ref db, .int sta, .int nx, .int (nI sp), .int (nI cl2), .int (nI np), .ref dc, .ref dd, .ref de, .int (nI ((gtS n ((gtS n ww2 wy2 sn2 u2).1) ((gtS n ww2 wy2 sn2 u2).2.1) ((gtS n ww2 wy2 sn2 u2).2.2) (t + 1)).1)), .ref df, .ref dg, .ref dh])), (df, .inl (cI, 61, .inl ((gtS n ((gtS n ww2 wy2 sn2 u2).1) ((gtS n ww2 wy2 sn2 u2).2.1) ((gtS n ww2 wy2 sn2 u2).2.2) (t + 1)).2.1))), (dg, .inl (cZ, 61, .inl ((gtS n ((gtS n ww2 wy2 sn2 u2).1) ((gtS n ww2 wy2 sn2 u2).2.1) ((gtS n ww2 wy2 sn2 u2).2.2) (t + 1)).2.2)))] H := hP
                          have hD : va_D A [(d3, .inl (cI, 60, .inl fb)), (d4, .inl (cI, 60, .inl fc)), (d1, .inl (cI, 60, .inl fk)), (d2, .inl (cI, 60, .inl fa)), (md, .inr (5, [.int th, .int (nI n), .ref d1, .ref d2, .ref d3, .ref d4, .int (nI wt), .int isS, .int (nI nr), .int (nI ns), .ref d5, .ref d6, .ref d7, .ref d8, .ref d9, .ref da, .ref db, .int sta, .int nx, .int (nI sp), .int (nI cl2), .int (nI np), .ref dc, .ref dd, .ref de, .int (nI ((gtS n ((gtS n ww2 wy2 sn2 u2).1) ((gtS n ww2 wy2 sn2 u2).2.1) ((gtS n ww2 wy2 sn2 u2).2.2) (t + 1)).1)), .ref df, .ref dg, .ref dh])), (df, .inl (cI, 61, .inl ((gtS n ((gtS n ww2 wy2 sn2 u2).1) ((gtS n ww2 wy2 sn2 u2).2.1) ((gtS n ww2 wy2 sn2 u2).2.2) (t + 1)).2.1))), (dg, .inl (cZ, 61, .inl ((gtS n ((gtS n ww2 wy2 sn2 u2).1) ((gtS n ww2 wy2 sn2 u2).2.1) ((gtS n ww2 wy2 sn2 u2).2.2) (t + 1)).2.2)))] := hD
                          obtain ⟨hbf, hgo3, hup3, hwk, hle⟩ := bf_go hn hbf (u := (t + 1)) (bf_suc hbf ht2 hs1 hst (Or.inr (Or.inl ⟨c_106, Or.inr rfl⟩)))
                          have et := (hwk i hiw).trans et
                          have hs1 := hup3 t hs1
                          have hiw := Nat.lt_of_lt_of_le hiw hle
                          have hwn := bf_ways hbf
                          refine lv_iinc (v := nI (i + 1)) (lv' := [(3, .int (nI (i + 1))), (4, .int (nI t)), (0, .ref md), (1, .int (nI fr)), (2, .int (nI v))]) hx hb d_Mod_lives_152 hl (k := 4) rfl (nI_add i 1) (by decide) rfl (fun ls hl => ?_)
                          refine lv_goto (tgt := 33) hx hb d_Mod_lives_155 (by decide) ?_
                          exact ih_33 (i + 1) ((gtS n ((gtS n ww2 wy2 sn2 u2).1) ((gtS n ww2 wy2 sn2 u2).2.1) ((gtS n ww2 wy2 sn2 u2).2.2) (t + 1)).1) ((gtS n ((gtS n ww2 wy2 sn2 u2).1) ((gtS n ww2 wy2 sn2 u2).2.1) ((gtS n ww2 wy2 sn2 u2).2.2) (t + 1)).2.1) ((gtS n ((gtS n ww2 wy2 sn2 u2).1) ((gtS n ww2 wy2 sn2 u2).2.1) ((gtS n ww2 wy2 sn2 u2).2.2) (t + 1)).2.2) (bf_next hn hbf hiw ht2 et (by rw [← mrd_rd hn ht2 hv24]; exact e_56) (Or.inr (fun w hs hw => (suc8i c_106 eu2 hu2 hs).elim (fun e => by rw [e] at hw ⊢; exact hup3 _ (hgo2 hw)) (fun e => by rw [e] at hw ⊢; exact hgo3 hw)))) (by omega) _ _ (hP.sub [4, 2, 3, 0, 1, 5, 6] rfl) (hD.sub [4, 2, 3, 0, 1, 5, 6] (by decide) rfl) hS _ (lv_sub hl [2, 3, 4, 0] rfl)
                  · skip
                    refine lv_aload_n hx hb d_Mod_lives_86 rfl (lv_at hl 1 rfl) ?_
                    refine lv_aload_n hx hb d_Mod_lives_87 rfl (lv_at hl 1 rfl) ?_
                    refine va_get (D := (dC, dI)) (ci := 5) (v := .ref d2) (C := R_Mod) (T := T_Mod) (N := 29) hx hb ht i_Mod hown hK hP 4 rfl rfl 3 (by decide) (ht _ mw_609) (fun _ h9 => h9) rfl d_Mod_lives_88 ?_
                    refine lv_iload hx hb d_Mod_lives_91 (lv_at hl 0 rfl) ?_
                    refine sm_iald (j := t) hx hb hK hP 6 0 rfl rfl (vp_in_nI (by first | omega | assumption) (by first | decide | omega)) (nI_clamp (by first | omega | (have := sm_lt31; omega))) d_Mod_lives_93 ?_
                    obtain ⟨u1, hu1, eu1⟩ := inB_j (ok7 (hok t ht2) c_83) (by decide)
                    refine sm_re eu1 ?_
                    refine sm_gov (wc := [(md, .inr (5, [.int th, .int (nI n), .ref d1, .ref d2, .ref d3, .ref d4, .int (nI wt), .int isS, .int (nI nr), .int (nI ns), .ref d5, .ref d6, .ref d7, .ref d8, .ref d9, .ref da, .ref db, .int sta, .int nx, .int (nI sp), .int (nI cl2), .int (nI np), .ref dc, .ref dd, .ref de, .int (nI ww2), .ref df, .ref dg, .ref dh])), (df, .inl (cI, 61, .inl wy2)), (dg, .inl (cZ, 61, .inl sn2))]) (wr := [(d3, .inl (cI, 60, .inl fb)), (d4, .inl (cI, 60, .inl fc)), (d1, .inl (cI, 60, .inl fk)), (d2, .inl (cI, 60, .inl fa))]) (va_runV (As := [.int (nI u1)]) (rest := []) ⟨hx, hb, hml, hown, ht⟩ ((c_Mod_goTo (l := l) (dC := dC) (dI := dI) (cI := cI) (cZ := cZ) (md := md) (d1 := d1) (d2 := d2) (d3 := d3) (d4 := d4) (d5 := d5) (d6 := d6) (d7 := d7) (d8 := d8) (d9 := d9) (da := da) (db := db) (dc := dc) (dd := dd) (de := de) (df := df) (dg := dg) (dh := dh) (n := n) (wt := wt) (nr := nr) (ns := ns) (sp := sp) (cl2 := cl2) (np := np) (ww := ww2) (th := th) (isS := isS) (sta := sta) (nx := nx) (wy := wy2) (sn := sn2) (u := u1) hn hu1 (fun _ _ => by omega)).at H.size) (sm_cV 1 ht mw_731 mw_6 mw_728 mw_730 mp_23 rfl rfl (by decide +kernel) ⟨Nat.le_of_ble_eq_true rfl, Nat.le_of_ble_eq_true rfl⟩) (sm_preV (ci := 5) hN hK hP hD [4, 0, 1] rfl rfl (by decide) 4 rfl rfl) rfl rfl hl.1 rfl (lv_room (Nat.le_of_ble_eq_true rfl)) d_Mod_lives_94 ⟨Nat.zero_le _, Nat.zero_le _⟩) hP hD hS hA [4, 0, 1] [2, 3, 5, 6] rfl rfl (by decide) (by decide) (fun w_94 H locs q_94 hP hD hS => ?_)
                    obtain rfl := q_94
                    have hP : va_P (dC, dI) smC [(d3, .inl (cI, 60, .inl fb)), (d4, .inl (cI, 60, .inl fc)), (d1, .inl (cI, 60, .inl fk)), (d2, .inl (cI, 60, .inl fa)), (md, .inr (5, [.int th, .int (nI n), .ref d1, .ref d2, .ref d3, .ref d4, .int (nI wt), .int isS, .int (nI nr), .int (nI ns), .ref d5, .ref d6, .ref d7, .ref d8, .ref d9, .ref da, .ref db, .int sta, .int nx, .int (nI sp), .int (nI cl2), .int (nI np), .ref dc, .ref dd, .ref de, .int (nI ((gtS n ww2 wy2 sn2 u1).1)), .ref df, .ref dg, .ref dh])), (df, .inl (cI, 61, .inl ((gtS n ww2 wy2 sn2 u1).2.1))), (dg, .inl (cZ, 61, .inl ((gtS n ww2 wy2 sn2 u1).2.2)))] H := hP
                    have hD : va_D A [(d3, .inl (cI, 60, .inl fb)), (d4, .inl (cI, 60, .inl fc)), (d1, .inl (cI, 60, .inl fk)), (d2, .inl (cI, 60, .inl fa)), (md, .inr (5, [.int th, .int (nI n), .ref d1, .ref d2, .ref d3, .ref d4, .int (nI wt), .int isS, .int (nI nr), .int (nI ns), .ref d5, .ref d6, .ref d7, .ref d8, .ref d9, .ref da, .ref db, .int sta, .int nx, .int (nI sp), .int (nI cl2), .int (nI np), .ref dc, .ref dd, .ref de, .int (nI ((gtS n ww2 wy2 sn2 u1).1)), .ref df, .ref dg, .ref dh])), (df, .inl (cI, 61, .inl ((gtS n ww2 wy2 sn2 u1).2.1))), (dg, .inl (cZ, 61, .inl ((gtS n ww2 wy2 sn2 u1).2.2)))] := hD
                    obtain ⟨hbf, hgo1, hup1, hwk, hle⟩ := bf_go hn hbf (u := u1) (bf_suc hbf ht2 hs1 hst (suc7 c_83 eu1 hu1))
                    have et := (hwk i hiw).trans et
                    have hs1 := hup1 t hs1
                    have hiw := Nat.lt_of_lt_of_le hiw hle
                    have hwn := bf_ways hbf
                    refine lv_aload_n hx hb d_Mod_lives_97 rfl (lv_at hl 1 rfl) ?_
                    refine va_get (D := (dC, dI)) (ci := 5) (v := .ref d1) (C := R_Mod) (T := T_Mod) (N := 29) hx hb ht i_Mod hown hK hP 4 rfl rfl 2 (by decide) (ht _ mw_608) (fun _ h9 => h9) rfl d_Mod_lives_98 ?_
                    refine lv_iload hx hb d_Mod_lives_101 (lv_at hl 0 rfl) ?_
                    refine sm_iald (j := t) hx hb hK hP 2 0 rfl rfl (vp_in_nI (by first | omega | assumption) (by first | decide | omega)) (nI_clamp (by first | omega | (have := sm_lt31; omega))) d_Mod_lives_103 ?_
                    refine lv_bipush (v := 8) hx hb d_Mod_lives_104 (by decide) ?_
                    refine lv_icmp_ne (tgt := 120) hx hb d_Mod_lives_106 (by decide) (fun c_106 => ?_) (fun c_106 => ?_)
                    · skip
                      refine lv_aload_n hx hb d_Mod_lives_120 rfl (lv_at hl 1 rfl) ?_
                      refine va_get (D := (dC, dI)) (ci := 5) (v := .ref d1) (C := R_Mod) (T := T_Mod) (N := 29) hx hb ht i_Mod hown hK hP 4 rfl rfl 2 (by decide) (ht _ mw_608) (fun _ h9 => h9) rfl d_Mod_lives_121 ?_
                      refine lv_iload hx hb d_Mod_lives_124 (lv_at hl 0 rfl) ?_
                      refine sm_iald (j := t) hx hb hK hP 2 0 rfl rfl (vp_in_nI (by first | omega | assumption) (by first | decide | omega)) (nI_clamp (by first | omega | (have := sm_lt31; omega))) d_Mod_lives_126 ?_
                      refine lv_bipush (v := 7) hx hb d_Mod_lives_127 (by decide) ?_
                      refine lv_icmp_eq (tgt := 152) hx hb d_Mod_lives_129 (by decide) (fun c_129 => ?_) (fun c_129 => ?_)
                      · skip
                        refine lv_iinc (v := nI (i + 1)) (lv' := [(3, .int (nI (i + 1))), (4, .int (nI t)), (0, .ref md), (1, .int (nI fr)), (2, .int (nI v))]) hx hb d_Mod_lives_152 hl (k := 4) rfl (nI_add i 1) (by decide) rfl (fun ls hl => ?_)
                        refine lv_goto (tgt := 33) hx hb d_Mod_lives_155 (by decide) ?_
                        exact ih_33 (i + 1) ((gtS n ww2 wy2 sn2 u1).1) ((gtS n ww2 wy2 sn2 u1).2.1) ((gtS n ww2 wy2 sn2 u1).2.2) (bf_next hn hbf hiw ht2 et (by rw [← mrd_rd hn ht2 hv24]; exact e_56) (Or.inr (fun w hs hw => by rw [suc7i c_83 eu1 hu1 hs] at hw ⊢; exact hgo1 hw))) (by omega) _ _ (hP.sub [4, 2, 3, 0, 1, 5, 6] rfl) (hD.sub [4, 2, 3, 0, 1, 5, 6] (by decide) rfl) hS _ (lv_sub hl [2, 3, 4, 0] rfl)
                      · skip
                        exact absurd c_83 c_129
                    · skip
                      exact absurd (c_83.symm.trans c_106) (by decide)
                · skip
                  have e_68 : (mst fk fa t (nI v)) = true := b2i_ne0 c_68
                  refine lv_goto (tgt := 152) hx hb d_Mod_lives_71 (by decide) ?_
                  refine lv_iinc (v := nI (i + 1)) (lv' := [(3, .int (nI (i + 1))), (4, .int (nI t)), (0, .ref md), (1, .int (nI fr)), (2, .int (nI v))]) hx hb d_Mod_lives_152 hl (k := 4) rfl (nI_add i 1) (by decide) rfl (fun ls hl => ?_)
                  refine lv_goto (tgt := 33) hx hb d_Mod_lives_155 (by decide) ?_
                  exact ih_33 (i + 1) ww2 wy2 sn2 (bf_next hn hbf hiw ht2 et (by rw [← mrd_rd hn ht2 hv24]; exact e_56) (Or.inl (by rw [← mst_st hn hok ht2 hv24]; exact e_68))) (by omega) _ _ (hP.sub [4, 5, 6, 2, 3, 0, 1] rfl) (hD.sub [4, 5, 6, 2, 3, 0, 1] (by decide) rfl) hS _ (lv_sub hl [2, 3, 4, 0] rfl)
              · skip
                have e_56 : (mrd fk fa fb fc t (nI v)) = true := b2i_ne0 c_56
                refine lv_iconst (v := 1) hx hb d_Mod_lives_59 (by decide) ?_
                refine sm_rz (v := (1 : Int32)) (ws := [(md, .inr (5, [.int th, .int (nI n), .ref d1, .ref d2, .ref d3, .ref d4, .int (nI wt), .int isS, .int (nI nr), .int (nI ns), .ref d5, .ref d6, .ref d7, .ref d8, .ref d9, .ref da, .ref db, .int sta, .int nx, .int (nI sp), .int (nI cl2), .int (nI np), .ref dc, .ref dd, .ref de, .int (nI ww2), .ref df, .ref dg, .ref dh])), (d1, .inl (cI, 60, .inl fk)), (d2, .inl (cI, 60, .inl fa)), (d3, .inl (cI, 60, .inl fb)), (d4, .inl (cI, 60, .inl fc)), (df, .inl (cI, 61, .inl wy2)), (dg, .inl (cZ, 61, .inl sn2))]) hx hb hr hlocks hK (hP.sub [2, 3, 4, 5, 6, 0, 1] rfl) (hD.sub [2, 3, 4, 5, 6, 0, 1] (by decide) rfl) hS (by decide) ?_ d_Mod_lives_60
                exact ⟨ww2, wy2, sn2, by rw [lv_t hn hok hv24 hfr (bf_hit hbf ht2 hs1 (by rw [← mrd_rd hn ht2 hv24]; exact e_56))]; rfl, rfl⟩
        exact loop_33 62 0 1 (upd wy 0 (nI fr)) (upd s1 fr 1) (bf_0 hn hfr (fun t ht => hz t (by omega))) (by decide) _ _ (hP.sub [4, 0, 1, 2, 3, 5, 6] rfl) (hD.sub [4, 0, 1, 2, 3, 5, 6] (by decide) rfl) hS _ (lv_sub hl [1, 2, 3, 0] rfl)
      · skip
        have f_10 : ¬ 60 < k := fun z => c_10 ((nI_ltI (a := 60) (b := k) (by first | omega | decide) (by first | omega | decide)).mpr z)
        obtain ⟨q1, rfl⟩ : ∃ z, q = z + 1 := ⟨q - 1, by omega⟩
        refine lv_aload_n hx hb d_Mod_lives_13 rfl (lv_at hl 0 rfl) ?_
        refine va_get (D := (dC, dI)) (ci := 5) (v := .ref dg) (C := R_Mod) (T := T_Mod) (N := 29) hx hb ht i_Mod hown hK hP 0 rfl rfl 27 (by decide) (ht _ mw_633) (fun _ h9 => h9) rfl d_Mod_lives_14 ?_
        refine lv_iload_n hx hb d_Mod_lives_17 rfl (lv_at hl 3 rfl) ?_
        refine lv_iconst (v := 0) hx hb d_Mod_lives_18 (by decide) ?_
        refine sm_zast (j := k) hx hb hK hP hD hS 6 1 rfl rfl (vp_in_nI (by first | omega | assumption) (by first | decide | omega)) (nI_clamp (by first | omega | (have := sm_lt31; omega))) (by decide) d_Mod_lives_19 (fun H locs hP hD hS => ?_)
        have hP : va_P (dC, dI) smC [(md, .inr (5, [.int th, .int (nI n), .ref d1, .ref d2, .ref d3, .ref d4, .int (nI wt), .int isS, .int (nI nr), .int (nI ns), .ref d5, .ref d6, .ref d7, .ref d8, .ref d9, .ref da, .ref db, .int sta, .int nx, .int (nI sp), .int (nI cl2), .int (nI np), .ref dc, .ref dd, .ref de, .int ((0 : Int32)), .ref df, .ref dg, .ref dh])), (d1, .inl (cI, 60, .inl fk)), (d2, .inl (cI, 60, .inl fa)), (d3, .inl (cI, 60, .inl fb)), (d4, .inl (cI, 60, .inl fc)), (df, .inl (cI, 61, .inl wy)), (dg, .inl (cZ, 61, .inl (upd s1 k ((0 : Int32)))))] H := hP
        have hD : va_D A [(md, .inr (5, [.int th, .int (nI n), .ref d1, .ref d2, .ref d3, .ref d4, .int (nI wt), .int isS, .int (nI nr), .int (nI ns), .ref d5, .ref d6, .ref d7, .ref d8, .ref d9, .ref da, .ref db, .int sta, .int nx, .int (nI sp), .int (nI cl2), .int (nI np), .ref dc, .ref dd, .ref de, .int ((0 : Int32)), .ref df, .ref dg, .ref dh])), (d1, .inl (cI, 60, .inl fk)), (d2, .inl (cI, 60, .inl fa)), (d3, .inl (cI, 60, .inl fb)), (d4, .inl (cI, 60, .inl fc)), (df, .inl (cI, 61, .inl wy)), (dg, .inl (cZ, 61, .inl (upd s1 k ((0 : Int32)))))] := hD
        refine lv_iinc (v := nI (k + 1)) (lv' := [(3, .int (nI (k + 1))), (0, .ref md), (1, .int (nI fr)), (2, .int (nI v))]) hx hb d_Mod_lives_20 hl (k := 3) rfl (nI_add k 1) (by decide) rfl (fun ls hl => ?_)
        refine lv_goto (tgt := 7) hx hb d_Mod_lives_23 (by decide) ?_
        exact ih_7 q1 (k + 1) (upd s1 k ((0 : Int32))) (by omega) (sm_fillstep hz) (by omega) _ _ (hP.sub [0, 1, 2, 3, 4, 5, 6] rfl) (hD.sub [0, 1, 2, 3, 4, 5, 6] (by decide) rfl) hS _ (lv_sub hl [1, 2, 3, 0] rfl)
  exact loop_7 62 61 0 sn rfl (fun t ht => absurd ht (Nat.not_lt_zero _)) (by decide) _ _ (hP.sub [0, 1, 2, 3, 4, 5, 6] rfl) (hD.sub [0, 1, 2, 3, 4, 5, 6] (by decide) rfl) hS _ (lv_sub hl [1, 2, 3, 0] rfl)
