abbrev y_Mod_nextOne : MethodName := ⟨"ScanMillModel", "nextOne", "(Z)I"⟩
theorem d_Mod_nextOne_0 : decode prog_7_method_16_code 0 = .ok (.iconst (-1), 1) := by decide +kernel
theorem d_Mod_nextOne_1 : decode prog_7_method_16_code 1 = .ok (.istore_n 2, 1) := by decide +kernel
theorem d_Mod_nextOne_2 : decode prog_7_method_16_code 2 = .ok (.iconst 0, 1) := by decide +kernel
theorem d_Mod_nextOne_3 : decode prog_7_method_16_code 3 = .ok (.istore_n 3, 1) := by decide +kernel
theorem d_Mod_nextOne_4 : decode prog_7_method_16_code 4 = .ok (.iload_n 3, 1) := by decide +kernel
theorem d_Mod_nextOne_5 : decode prog_7_method_16_code 5 = .ok (.bipush 24, 2) := by decide +kernel
theorem d_Mod_nextOne_7 : decode prog_7_method_16_code 7 = .ok (.if_icmp .ge 87, 3) := by decide +kernel
theorem d_Mod_nextOne_94 : decode prog_7_method_16_code 94 = .ok (.iload_n 2, 1) := by decide +kernel
theorem d_Mod_nextOne_95 : decode prog_7_method_16_code 95 = .ok (.iconst (-1), 1) := by decide +kernel
theorem d_Mod_nextOne_96 : decode prog_7_method_16_code 96 = .ok (.if_icmp .eq 10, 3) := by decide +kernel
theorem d_Mod_nextOne_106 : decode prog_7_method_16_code 106 = .ok (.iload_n 2, 1) := by decide +kernel
theorem d_Mod_nextOne_107 : decode prog_7_method_16_code 107 = .ok (.ireturn, 1) := by decide +kernel
theorem d_Mod_nextOne_99 : decode prog_7_method_16_code 99 = .ok (.aload_n 0, 1) := by decide +kernel
theorem d_Mod_nextOne_100 : decode prog_7_method_16_code 100 = .ok (.getfield 63, 3) := by decide +kernel
theorem d_Mod_nextOne_103 : decode prog_7_method_16_code 103 = .ok (.iload_n 2, 1) := by decide +kernel
theorem d_Mod_nextOne_104 : decode prog_7_method_16_code 104 = .ok (.iconst 1, 1) := by decide +kernel
theorem d_Mod_nextOne_105 : decode prog_7_method_16_code 105 = .ok (.bastore, 1) := by decide +kernel
theorem d_Mod_nextOne_10 : decode prog_7_method_16_code 10 = .ok (.aload_n 0, 1) := by decide +kernel
theorem d_Mod_nextOne_11 : decode prog_7_method_16_code 11 = .ok (.getfield 32, 3) := by decide +kernel
theorem d_Mod_nextOne_14 : decode prog_7_method_16_code 14 = .ok (.iload_n 3, 1) := by decide +kernel
theorem d_Mod_nextOne_15 : decode prog_7_method_16_code 15 = .ok (.baload, 1) := by decide +kernel
theorem d_Mod_nextOne_16 : decode prog_7_method_16_code 16 = .ok (.ifCond .eq 42, 3) := by decide +kernel
theorem d_Mod_nextOne_58 : decode prog_7_method_16_code 58 = .ok (.iconst 0, 1) := by decide +kernel
theorem d_Mod_nextOne_59 : decode prog_7_method_16_code 59 = .ok (.istore 4, 2) := by decide +kernel
theorem d_Mod_nextOne_61 : decode prog_7_method_16_code 61 = .ok (.iload 4, 2) := by decide +kernel
theorem d_Mod_nextOne_63 : decode prog_7_method_16_code 63 = .ok (.ifCond .eq 25, 3) := by decide +kernel
theorem d_Mod_nextOne_88 : decode prog_7_method_16_code 88 = .ok (.iinc 3 1, 3) := by decide +kernel
theorem d_Mod_nextOne_91 : decode prog_7_method_16_code 91 = .ok (.goto (-87), 3) := by decide +kernel
theorem d_Mod_nextOne_19 : decode prog_7_method_16_code 19 = .ok (.aload_n 0, 1) := by decide +kernel
theorem d_Mod_nextOne_20 : decode prog_7_method_16_code 20 = .ok (.getfield 63, 3) := by decide +kernel
theorem d_Mod_nextOne_23 : decode prog_7_method_16_code 23 = .ok (.iload_n 3, 1) := by decide +kernel
theorem d_Mod_nextOne_24 : decode prog_7_method_16_code 24 = .ok (.baload, 1) := by decide +kernel
theorem d_Mod_nextOne_25 : decode prog_7_method_16_code 25 = .ok (.ifCond .ne 33, 3) := by decide +kernel
theorem d_Mod_nextOne_28 : decode prog_7_method_16_code 28 = .ok (.iload_n 1, 1) := by decide +kernel
theorem d_Mod_nextOne_29 : decode prog_7_method_16_code 29 = .ok (.ifCond .eq 15, 3) := by decide +kernel
theorem d_Mod_nextOne_32 : decode prog_7_method_16_code 32 = .ok (.aload_n 0, 1) := by decide +kernel
theorem d_Mod_nextOne_33 : decode prog_7_method_16_code 33 = .ok (.getfield 36, 3) := by decide +kernel
theorem d_Mod_nextOne_36 : decode prog_7_method_16_code 36 = .ok (.iload_n 3, 1) := by decide +kernel
theorem d_Mod_nextOne_37 : decode prog_7_method_16_code 37 = .ok (.baload, 1) := by decide +kernel
theorem d_Mod_nextOne_38 : decode prog_7_method_16_code 38 = .ok (.ifCond .ne 20, 3) := by decide +kernel
theorem d_Mod_nextOne_41 : decode prog_7_method_16_code 41 = .ok (.goto 13, 3) := by decide +kernel
theorem d_Mod_nextOne_54 : decode prog_7_method_16_code 54 = .ok (.iconst 1, 1) := by decide +kernel
theorem d_Mod_nextOne_55 : decode prog_7_method_16_code 55 = .ok (.goto 4, 3) := by decide +kernel
theorem d_Mod_nextOne_66 : decode prog_7_method_16_code 66 = .ok (.iload_n 2, 1) := by decide +kernel
theorem d_Mod_nextOne_67 : decode prog_7_method_16_code 67 = .ok (.iconst (-1), 1) := by decide +kernel
theorem d_Mod_nextOne_68 : decode prog_7_method_16_code 68 = .ok (.if_icmp .eq 18, 3) := by decide +kernel
theorem d_Mod_nextOne_86 : decode prog_7_method_16_code 86 = .ok (.iload_n 3, 1) := by decide +kernel
theorem d_Mod_nextOne_87 : decode prog_7_method_16_code 87 = .ok (.istore_n 2, 1) := by decide +kernel
theorem d_Mod_nextOne_71 : decode prog_7_method_16_code 71 = .ok (.aload_n 0, 1) := by decide +kernel
theorem d_Mod_nextOne_72 : decode prog_7_method_16_code 72 = .ok (.getfield 26, 3) := by decide +kernel
theorem d_Mod_nextOne_75 : decode prog_7_method_16_code 75 = .ok (.iload_n 3, 1) := by decide +kernel
theorem d_Mod_nextOne_76 : decode prog_7_method_16_code 76 = .ok (.iaload, 1) := by decide +kernel
theorem d_Mod_nextOne_77 : decode prog_7_method_16_code 77 = .ok (.aload_n 0, 1) := by decide +kernel
theorem d_Mod_nextOne_78 : decode prog_7_method_16_code 78 = .ok (.getfield 26, 3) := by decide +kernel
theorem d_Mod_nextOne_81 : decode prog_7_method_16_code 81 = .ok (.iload_n 2, 1) := by decide +kernel
theorem d_Mod_nextOne_82 : decode prog_7_method_16_code 82 = .ok (.iaload, 1) := by decide +kernel
theorem d_Mod_nextOne_83 : decode prog_7_method_16_code 83 = .ok (.if_icmp .ge 5, 3) := by decide +kernel
set_option maxRecDepth 100000 in
set_option maxHeartbeats 4000000 in
theorem c_Mod_nextOneR {l : Launch} {dC : Nat → ClassId} {dI : Nat → Nat → Nat} {cI cZ : ClassId} {md d1 d2 d3 d4 d5 d6 d7 d8 d9 da db dc dd de df dg dh n wt nr ns sp cl2 np ww : Nat} {th isS sta nx : Int32} {mf mi mo mr mg : Nat → Int32}  : sm_I l y_Mod_nextOne prog_7_method_16_code 5 (some .int) (rmF 0 0) (dC, dI) smC [(cI, .int), (cZ, .boolean)] [.ref md, .int ((1 : Int32))] [(md, .inr (5, [.int th, .int (nI n), .ref d1, .ref d2, .ref d3, .ref d4, .int (nI wt), .int isS, .int (nI nr), .int (nI ns), .ref d5, .ref d6, .ref d7, .ref d8, .ref d9, .ref da, .ref db, .int sta, .int nx, .int (nI sp), .int (nI cl2), .int (nI np), .ref dc, .ref dd, .ref de, .int (nI ww), .ref df, .ref dg, .ref dh])), (d5, .inl (cI, 24, .inl mf)), (d7, .inl (cZ, 24, .inl mi)), (d8, .inl (cZ, 24, .inl mo)), (d9, .inl (cI, 24, .inl mr)), (dh, .inl (cZ, 24, .inl mg))] (fun q w2 => q = (nO (mayR mi mg mo) mf 24 0 (-1)) ∧ w2 = [(md, .inr (5, [.int th, .int (nI n), .ref d1, .ref d2, .ref d3, .ref d4, .int (nI wt), .int isS, .int (nI nr), .int (nI ns), .ref d5, .ref d6, .ref d7, .ref d8, .ref d9, .ref da, .ref db, .int sta, .int nx, .int (nI sp), .int (nI cl2), .int (nI np), .ref dc, .ref dd, .ref de, .int (nI ww), .ref df, .ref dg, .ref dh])), (d5, .inl (cI, 24, .inl mf)), (d7, .inl (cZ, 24, .inl mi)), (d8, .inl (cZ, 24, .inl mo)), (d9, .inl (cI, 24, .inl mr)), (dh, .inl (cZ, 24, .inl (ngo mg (nO (mayR mi mg mo) mf 24 0 (-1)))))]) := by
  refine sm_I.mk (by decide) (Nat.le_of_ble_eq_true rfl) ?_
  intro p e s m below meth c A H locs ls hx hb hr ht hown hlocks hml hnm hP hK hD hA hS hN hl
  have hl : lv_has ls 5 [(0, .ref md), (1, .int ((1 : Int32)))] := hl
  refine lv_iconst (v := -1) hx hb d_Mod_nextOne_0 (by decide) ?_
  refine lv_istore_n (lv' := [(2, .int ((-1 : Int32))), (0, .ref md), (1, .int ((1 : Int32)))]) hx hb d_Mod_nextOne_1 rfl hl (by decide) rfl (fun ls hl => ?_)
  refine lv_iconst (v := 0) hx hb d_Mod_nextOne_2 (by decide) ?_
  refine lv_istore_n (lv' := [(3, .int ((0 : Int32))), (2, .int ((-1 : Int32))), (0, .ref md), (1, .int ((1 : Int32)))]) hx hb d_Mod_nextOne_3 rfl hl (by decide) rfl (fun ls hl => ?_)
  have loop_4 : ∀ (N_4 : Nat) (q : Nat) (v : Nat) (bs : Int32), (q + v = 24) → (bs = -1 ∨ inB bs 24 = true) → (nO (mayR mi mg mo) mf q v bs = nO (mayR mi mg mo) mf 24 0 (-1)) → q < N_4 → ∀ (H : Heap) (locs : List Loc), va_P (dC, dI) smC [(md, .inr (5, [.int th, .int (nI n), .ref d1, .ref d2, .ref d3, .ref d4, .int (nI wt), .int isS, .int (nI nr), .int (nI ns), .ref d5, .ref d6, .ref d7, .ref d8, .ref d9, .ref da, .ref db, .int sta, .int nx, .int (nI sp), .int (nI cl2), .int (nI np), .ref dc, .ref dd, .ref de, .int (nI ww), .ref df, .ref dg, .ref dh])), (d5, .inl (cI, 24, .inl mf)), (d7, .inl (cZ, 24, .inl mi)), (d8, .inl (cZ, 24, .inl mo)), (d9, .inl (cI, 24, .inl mr)), (dh, .inl (cZ, 24, .inl mg))] H → va_D A [(md, .inr (5, [.int th, .int (nI n), .ref d1, .ref d2, .ref d3, .ref d4, .int (nI wt), .int isS, .int (nI nr), .int (nI ns), .ref d5, .ref d6, .ref d7, .ref d8, .ref d9, .ref da, .ref db, .int sta, .int nx, .int (nI sp), .int (nI cl2), .int (nI np), .ref dc, .ref dd, .ref de, .int (nI ww), .ref df, .ref dg, .ref dh])), (d5, .inl (cI, 24, .inl mf)), (d7, .inl (cZ, 24, .inl mi)), (d8, .inl (cZ, 24, .inl mo)), (d9, .inl (cI, 24, .inl mr)), (dh, .inl (cZ, 24, .inl mg))] → va_S A s.heap H locs → ∀ ls : Array Slot, lv_has ls 5 [(0, .ref md), (1, .int ((1 : Int32))), (2, .int bs), (3, .int (nI v))] → W p l e (rmF 0 0) s m ([.ref md, .int ((1 : Int32))] : List Value).toArray below meth c H locs 0 0 (MQ below (va_Qi (fun q w2 => q = (nO (mayR mi mg mo) mf 24 0 (-1)) ∧ w2 = [(md, .inr (5, [.int th, .int (nI n), .ref d1, .ref d2, .ref d3, .ref d4, .int (nI wt), .int isS, .int (nI nr), .int (nI ns), .ref d5, .ref d6, .ref d7, .ref d8, .ref d9, .ref da, .ref db, .int sta, .int nx, .int (nI sp), .int (nI cl2), .int (nI np), .ref dc, .ref dd, .ref de, .int (nI ww), .ref df, .ref dg, .ref dh])), (d5, .inl (cI, 24, .inl mf)), (d7, .inl (cZ, 24, .inl mi)), (d8, .inl (cZ, 24, .inl mo)), (d9, .inl (cI, 24, .inl mr)), (dh, .inl (cZ, 24, .inl (ngo mg (nO (mayR mi mg mo) mf 24 0 (-1)))))]) (sm_B (dC, dI) smC [(cI, .int), (cZ, .boolean)] A) A) ([.ref md, .int ((1 : Int32))] : List Value).toArray s 0 0 A) (F0 m 4 ls []) := by
    intro N_4
    induction N_4 with
    | zero => intro q v bs _ _ _ z; exact absurd z (Nat.not_lt_zero _)
    | succ N_4 ih_4 =>
      intro q v bs hqv hbs hv m_4 H locs hP hD hS ls hl
      refine lv_iload_n hx hb d_Mod_nextOne_4 rfl (lv_at hl 3 rfl) ?_
      refine lv_bipush (v := 24) hx hb d_Mod_nextOne_5 (by decide) ?_
      refine lv_icmp_ge (tgt := 94) hx hb d_Mod_nextOne_7 (by decide) (fun c_7 => ?_) (fun c_7 => ?_)
      · skip
        have f_7 : 24 ≤ v := (nI_leI (a := 24) (b := v) (by first | omega | decide) (by first | omega | decide)).mp c_7
        obtain rfl : q = 0 := by omega
        have hbe : bs = nO (mayR mi mg mo) mf 24 0 (-1) := hv
        refine lv_iload_n hx hb d_Mod_nextOne_94 rfl (lv_at hl 2 rfl) ?_
        refine lv_iconst (v := -1) hx hb d_Mod_nextOne_95 (by decide) ?_
        refine lv_icmp_eq (tgt := 106) hx hb d_Mod_nextOne_96 (by decide) (fun c_96 => ?_) (fun c_96 => ?_)
        · skip
          refine lv_iload_n hx hb d_Mod_nextOne_106 rfl (lv_at hl 2 rfl) ?_
          refine sm_ri (v := bs) (ws := [(md, .inr (5, [.int th, .int (nI n), .ref d1, .ref d2, .ref d3, .ref d4, .int (nI wt), .int isS, .int (nI nr), .int (nI ns), .ref d5, .ref d6, .ref d7, .ref d8, .ref d9, .ref da, .ref db, .int sta, .int nx, .int (nI sp), .int (nI cl2), .int (nI np), .ref dc, .ref dd, .ref de, .int (nI ww), .ref df, .ref dg, .ref dh])), (d5, .inl (cI, 24, .inl mf)), (d7, .inl (cZ, 24, .inl mi)), (d8, .inl (cZ, 24, .inl mo)), (d9, .inl (cI, 24, .inl mr)), (dh, .inl (cZ, 24, .inl mg))]) hx hb hr hlocks hK (hP.sub [0, 1, 2, 3, 4, 5] rfl) (hD.sub [0, 1, 2, 3, 4, 5] (by decide) rfl) hS ?_ d_Mod_nextOne_107
          exact ⟨hbe, by rw [← hbe, ngo, if_pos c_96]⟩
        · skip
          refine lv_aload_n hx hb d_Mod_nextOne_99 rfl (lv_at hl 0 rfl) ?_
          refine va_get (D := (dC, dI)) (ci := 5) (v := .ref dh) (C := R_Mod) (T := T_Mod) (N := 29) hx hb ht i_Mod hown hK hP 0 rfl rfl 28 (by decide) (ht _ mw_634) (fun _ h9 => h9) rfl d_Mod_nextOne_100 ?_
          refine lv_iload_n hx hb d_Mod_nextOne_103 rfl (lv_at hl 2 rfl) ?_
          refine lv_iconst (v := 1) hx hb d_Mod_nextOne_104 (by decide) ?_
          refine sm_zast (j := bs.toNatClampNeg) hx hb hK hP hD hS 5 1 rfl rfl (sm_inB (hbs.resolve_left c_96)) rfl (by decide) d_Mod_nextOne_105 (fun H locs hP hD hS => ?_)
          have hP : va_P (dC, dI) smC [(md, .inr (5, [.int th, .int (nI n), .ref d1, .ref d2, .ref d3, .ref d4, .int (nI wt), .int isS, .int (nI nr), .int (nI ns), .ref d5, .ref d6, .ref d7, .ref d8, .ref d9, .ref da, .ref db, .int sta, .int nx, .int (nI sp), .int (nI cl2), .int (nI np), .ref dc, .ref dd, .ref de, .int (nI ww), .ref df, .ref dg, .ref dh])), (d5, .inl (cI, 24, .inl mf)), (d7, .inl (cZ, 24, .inl mi)), (d8, .inl (cZ, 24, .inl mo)), (d9, .inl (cI, 24, .inl mr)), (dh, .inl (cZ, 24, .inl (upd mg bs.toNatClampNeg ((1 : Int32)))))] H := hP
          have hD : va_D A [(md, .inr (5, [.int th, .int (nI n), .ref d1, .ref d2, .ref d3, .ref d4, .int (nI wt), .int isS, .int (nI nr), .int (nI ns), .ref d5, .ref d6, .ref d7, .ref d8, .ref d9, .ref da, .ref db, .int sta, .int nx, .int (nI sp), .int (nI cl2), .int (nI np), .ref dc, .ref dd, .ref de, .int (nI ww), .ref df, .ref dg, .ref dh])), (d5, .inl (cI, 24, .inl mf)), (d7, .inl (cZ, 24, .inl mi)), (d8, .inl (cZ, 24, .inl mo)), (d9, .inl (cI, 24, .inl mr)), (dh, .inl (cZ, 24, .inl (upd mg bs.toNatClampNeg ((1 : Int32)))))] := hD
          refine lv_iload_n hx hb d_Mod_nextOne_106 rfl (lv_at hl 2 rfl) ?_
          refine sm_ri (v := bs) (ws := [(md, .inr (5, [.int th, .int (nI n), .ref d1, .ref d2, .ref d3, .ref d4, .int (nI wt), .int isS, .int (nI nr), .int (nI ns), .ref d5, .ref d6, .ref d7, .ref d8, .ref d9, .ref da, .ref db, .int sta, .int nx, .int (nI sp), .int (nI cl2), .int (nI np), .ref dc, .ref dd, .ref de, .int (nI ww), .ref df, .ref dg, .ref dh])), (d5, .inl (cI, 24, .inl mf)), (d7, .inl (cZ, 24, .inl mi)), (d8, .inl (cZ, 24, .inl mo)), (d9, .inl (cI, 24, .inl mr)), (dh, .inl (cZ, 24, .inl (upd mg bs.toNatClampNeg ((1 : Int32)))))]) hx hb hr hlocks hK (hP.sub [0, 1, 2, 3, 4, 5] rfl) (hD.sub [0, 1, 2, 3, 4, 5] (by decide) rfl) hS ?_ d_Mod_nextOne_107
          exact ⟨hbe, by rw [← hbe, ngo, if_neg c_96]⟩
      · skip
        have f_7 : ¬ 24 ≤ v := fun z => c_7 ((nI_leI (a := 24) (b := v) (by first | omega | decide) (by first | omega | decide)).mpr z)
        obtain ⟨q1, rfl⟩ : ∃ z, q = z + 1 := ⟨q - 1, by omega⟩
        refine lv_aload_n hx hb d_Mod_nextOne_10 rfl (lv_at hl 0 rfl) ?_
        refine va_get (D := (dC, dI)) (ci := 5) (v := .ref d7) (C := R_Mod) (T := T_Mod) (N := 29) hx hb ht i_Mod hown hK hP 0 rfl rfl 12 (by decide) (ht _ mw_618) (fun _ h9 => h9) rfl d_Mod_nextOne_11 ?_
        refine lv_iload_n hx hb d_Mod_nextOne_14 rfl (lv_at hl 3 rfl) ?_
        refine sm_zald (j := v) hx hb hK hP 2 1 rfl rfl (vp_in_nI (by first | omega | assumption) (by first | decide | omega)) (nI_clamp (by first | omega | (have := sm_lt31; omega))) d_Mod_nextOne_15 ?_
        refine lv_if_eq (tgt := 58) hx hb d_Mod_nextOne_16 (by decide) (fun c_16 => ?_) (fun c_16 => ?_)
        · skip
          refine lv_iconst (v := 0) hx hb d_Mod_nextOne_58 (by decide) ?_
          refine lv_istore (lv' := [(4, .int ((0 : Int32))), (0, .ref md), (1, .int ((1 : Int32))), (2, .int bs), (3, .int (nI v))]) hx hb d_Mod_nextOne_59 hl (by decide) rfl (fun ls hl => ?_)
          refine lv_iload hx hb d_Mod_nextOne_61 (lv_at hl 0 rfl) ?_
          refine lv_if_eq (tgt := 88) hx hb d_Mod_nextOne_63 (by decide) (fun _ => ?_) (fun z => absurd z (by decide))
          refine lv_iinc (v := nI (v + 1)) (lv' := [(3, .int (nI (v + 1))), (4, .int ((0 : Int32))), (0, .ref md), (1, .int ((1 : Int32))), (2, .int bs)]) hx hb d_Mod_nextOne_88 hl (k := 4) rfl (nI_add v 1) (by decide) rfl (fun ls hl => ?_)
          refine lv_goto (tgt := 4) hx hb d_Mod_nextOne_91 (by decide) ?_
          exact ih_4 q1 (v + 1) bs (by omega) hbs (by rw [← hv, nO, if_neg (fun z => absurd z.1 (by simp [mayR, c_16]))]) (by omega) _ _ (hP.sub [0, 1, 2, 3, 4, 5] rfl) (hD.sub [0, 1, 2, 3, 4, 5] (by decide) rfl) hS _ (lv_sub hl [2, 3, 4, 0] rfl)
        · skip
          refine lv_aload_n hx hb d_Mod_nextOne_19 rfl (lv_at hl 0 rfl) ?_
          refine va_get (D := (dC, dI)) (ci := 5) (v := .ref dh) (C := R_Mod) (T := T_Mod) (N := 29) hx hb ht i_Mod hown hK hP 0 rfl rfl 28 (by decide) (ht _ mw_634) (fun _ h9 => h9) rfl d_Mod_nextOne_20 ?_
          refine lv_iload_n hx hb d_Mod_nextOne_23 rfl (lv_at hl 3 rfl) ?_
          refine sm_zald (j := v) hx hb hK hP 5 1 rfl rfl (vp_in_nI (by first | omega | assumption) (by first | decide | omega)) (nI_clamp (by first | omega | (have := sm_lt31; omega))) d_Mod_nextOne_24 ?_
          refine lv_if_ne (tgt := 58) hx hb d_Mod_nextOne_25 (by decide) (fun c_25 => ?_) (fun c_25 => ?_)
          · skip
            refine lv_iconst (v := 0) hx hb d_Mod_nextOne_58 (by decide) ?_
            refine lv_istore (lv' := [(4, .int ((0 : Int32))), (0, .ref md), (1, .int ((1 : Int32))), (2, .int bs), (3, .int (nI v))]) hx hb d_Mod_nextOne_59 hl (by decide) rfl (fun ls hl => ?_)
            refine lv_iload hx hb d_Mod_nextOne_61 (lv_at hl 0 rfl) ?_
            refine lv_if_eq (tgt := 88) hx hb d_Mod_nextOne_63 (by decide) (fun _ => ?_) (fun z => absurd z (by decide))
            refine lv_iinc (v := nI (v + 1)) (lv' := [(3, .int (nI (v + 1))), (4, .int ((0 : Int32))), (0, .ref md), (1, .int ((1 : Int32))), (2, .int bs)]) hx hb d_Mod_nextOne_88 hl (k := 4) rfl (nI_add v 1) (by decide) rfl (fun ls hl => ?_)
            refine lv_goto (tgt := 4) hx hb d_Mod_nextOne_91 (by decide) ?_
            exact ih_4 q1 (v + 1) bs (by omega) hbs (by rw [← hv, nO, if_neg (fun z => absurd z.1 (by simp [mayR, c_16, c_25]))]) (by omega) _ _ (hP.sub [0, 1, 2, 3, 4, 5] rfl) (hD.sub [0, 1, 2, 3, 4, 5] (by decide) rfl) hS _ (lv_sub hl [2, 3, 4, 0] rfl)
          · skip
            refine lv_iload_n hx hb d_Mod_nextOne_28 rfl (lv_at hl 1 rfl) ?_
            refine lv_if_eq (tgt := 44) hx hb d_Mod_nextOne_29 (by decide) (fun z => absurd z (by decide)) (fun _ => ?_)
            refine lv_aload_n hx hb d_Mod_nextOne_32 rfl (lv_at hl 0 rfl) ?_
            refine va_get (D := (dC, dI)) (ci := 5) (v := .ref d8) (C := R_Mod) (T := T_Mod) (N := 29) hx hb ht i_Mod hown hK hP 0 rfl rfl 13 (by decide) (ht _ mw_619) (fun _ h9 => h9) rfl d_Mod_nextOne_33 ?_
            refine lv_iload_n hx hb d_Mod_nextOne_36 rfl (lv_at hl 3 rfl) ?_
            refine sm_zald (j := v) hx hb hK hP 3 1 rfl rfl (vp_in_nI (by first | omega | assumption) (by first | decide | omega)) (nI_clamp (by first | omega | (have := sm_lt31; omega))) d_Mod_nextOne_37 ?_
            refine lv_if_ne (tgt := 58) hx hb d_Mod_nextOne_38 (by decide) (fun c_38 => ?_) (fun c_38 => ?_)
            · skip
              refine lv_iconst (v := 0) hx hb d_Mod_nextOne_58 (by decide) ?_
              refine lv_istore (lv' := [(4, .int ((0 : Int32))), (0, .ref md), (1, .int ((1 : Int32))), (2, .int bs), (3, .int (nI v))]) hx hb d_Mod_nextOne_59 hl (by decide) rfl (fun ls hl => ?_)
              refine lv_iload hx hb d_Mod_nextOne_61 (lv_at hl 0 rfl) ?_
              refine lv_if_eq (tgt := 88) hx hb d_Mod_nextOne_63 (by decide) (fun _ => ?_) (fun z => absurd z (by decide))
              refine lv_iinc (v := nI (v + 1)) (lv' := [(3, .int (nI (v + 1))), (4, .int ((0 : Int32))), (0, .ref md), (1, .int ((1 : Int32))), (2, .int bs)]) hx hb d_Mod_nextOne_88 hl (k := 4) rfl (nI_add v 1) (by decide) rfl (fun ls hl => ?_)
              refine lv_goto (tgt := 4) hx hb d_Mod_nextOne_91 (by decide) ?_
              exact ih_4 q1 (v + 1) bs (by omega) hbs (by rw [← hv, nO, if_neg (fun z => absurd z.1 (by simp [mayR, c_16, c_25, c_38]))]) (by omega) _ _ (hP.sub [0, 1, 2, 3, 4, 5] rfl) (hD.sub [0, 1, 2, 3, 4, 5] (by decide) rfl) hS _ (lv_sub hl [2, 3, 4, 0] rfl)
            · skip
              refine lv_goto (tgt := 54) hx hb d_Mod_nextOne_41 (by decide) ?_
              refine lv_iconst (v := 1) hx hb d_Mod_nextOne_54 (by decide) ?_
              refine lv_goto (tgt := 59) hx hb d_Mod_nextOne_55 (by decide) ?_
              refine lv_istore (lv' := [(4, .int ((1 : Int32))), (0, .ref md), (1, .int ((1 : Int32))), (2, .int bs), (3, .int (nI v))]) hx hb d_Mod_nextOne_59 hl (by decide) rfl (fun ls hl => ?_)
              refine lv_iload hx hb d_Mod_nextOne_61 (lv_at hl 0 rfl) ?_
              refine lv_if_eq (tgt := 88) hx hb d_Mod_nextOne_63 (by decide) (fun z => absurd z (by decide)) (fun _ => ?_)
              refine lv_iload_n hx hb d_Mod_nextOne_66 rfl (lv_at hl 3 rfl) ?_
              refine lv_iconst (v := -1) hx hb d_Mod_nextOne_67 (by decide) ?_
              refine lv_icmp_eq (tgt := 86) hx hb d_Mod_nextOne_68 (by decide) (fun c_68 => ?_) (fun c_68 => ?_)
              · skip
                refine lv_iload_n hx hb d_Mod_nextOne_86 rfl (lv_at hl 4 rfl) ?_
                refine lv_istore_n (lv' := [(2, .int (nI v)), (4, .int ((1 : Int32))), (0, .ref md), (1, .int ((1 : Int32))), (3, .int (nI v))]) hx hb d_Mod_nextOne_87 rfl hl (by decide) rfl (fun ls hl => ?_)
                refine lv_iinc (v := nI (v + 1)) (lv' := [(3, .int (nI (v + 1))), (2, .int (nI v)), (4, .int ((1 : Int32))), (0, .ref md), (1, .int ((1 : Int32)))]) hx hb d_Mod_nextOne_88 hl (k := 4) rfl (nI_add v 1) (by decide) rfl (fun ls hl => ?_)
                refine lv_goto (tgt := 4) hx hb d_Mod_nextOne_91 (by decide) ?_
                exact ih_4 q1 (v + 1) (nI v) (by omega) (Or.inr (by rw [inB_nI (by omega)]; exact decide_eq_true (by omega))) (by rw [← hv, nO, if_pos ⟨(by simp [mayR, c_16, c_25, c_38]), Or.inl c_68⟩]) (by omega) _ _ (hP.sub [0, 1, 2, 3, 4, 5] rfl) (hD.sub [0, 1, 2, 3, 4, 5] (by decide) rfl) hS _ (lv_sub hl [3, 4, 1, 0] rfl)
              · skip
                refine lv_aload_n hx hb d_Mod_nextOne_71 rfl (lv_at hl 1 rfl) ?_
                refine va_get (D := (dC, dI)) (ci := 5) (v := .ref d5) (C := R_Mod) (T := T_Mod) (N := 29) hx hb ht i_Mod hown hK hP 0 rfl rfl 10 (by decide) (ht _ mw_616) (fun _ h9 => h9) rfl d_Mod_nextOne_72 ?_
                refine lv_iload_n hx hb d_Mod_nextOne_75 rfl (lv_at hl 4 rfl) ?_
                refine sm_iald (j := v) hx hb hK hP 1 0 rfl rfl (vp_in_nI (by first | omega | assumption) (by first | decide | omega)) (nI_clamp (by first | omega | (have := sm_lt31; omega))) d_Mod_nextOne_76 ?_
                refine lv_aload_n hx hb d_Mod_nextOne_77 rfl (lv_at hl 1 rfl) ?_
                refine va_get (D := (dC, dI)) (ci := 5) (v := .ref d5) (C := R_Mod) (T := T_Mod) (N := 29) hx hb ht i_Mod hown hK hP 0 rfl rfl 10 (by decide) (ht _ mw_616) (fun _ h9 => h9) rfl d_Mod_nextOne_78 ?_
                refine lv_iload_n hx hb d_Mod_nextOne_81 rfl (lv_at hl 3 rfl) ?_
                refine sm_iald (j := bs.toNatClampNeg) hx hb hK hP 1 0 rfl rfl (sm_inB (hbs.resolve_left c_68)) rfl d_Mod_nextOne_82 ?_
                refine lv_icmp_ge (tgt := 88) hx hb d_Mod_nextOne_83 (by decide) (fun c_83 => ?_) (fun c_83 => ?_)
                · skip
                  refine lv_iinc (v := nI (v + 1)) (lv' := [(3, .int (nI (v + 1))), (4, .int ((1 : Int32))), (0, .ref md), (1, .int ((1 : Int32))), (2, .int bs)]) hx hb d_Mod_nextOne_88 hl (k := 4) rfl (nI_add v 1) (by decide) rfl (fun ls hl => ?_)
                  refine lv_goto (tgt := 4) hx hb d_Mod_nextOne_91 (by decide) ?_
                  exact ih_4 q1 (v + 1) bs (by omega) hbs (by rw [← hv, nO, if_neg (fun z => z.2.elim c_68 (sm_nlt c_83))]) (by omega) _ _ (hP.sub [0, 1, 2, 3, 4, 5] rfl) (hD.sub [0, 1, 2, 3, 4, 5] (by decide) rfl) hS _ (lv_sub hl [2, 3, 4, 0] rfl)
                · skip
                  refine lv_iload_n hx hb d_Mod_nextOne_86 rfl (lv_at hl 4 rfl) ?_
                  refine lv_istore_n (lv' := [(2, .int (nI v)), (4, .int ((1 : Int32))), (0, .ref md), (1, .int ((1 : Int32))), (3, .int (nI v))]) hx hb d_Mod_nextOne_87 rfl hl (by decide) rfl (fun ls hl => ?_)
                  refine lv_iinc (v := nI (v + 1)) (lv' := [(3, .int (nI (v + 1))), (2, .int (nI v)), (4, .int ((1 : Int32))), (0, .ref md), (1, .int ((1 : Int32)))]) hx hb d_Mod_nextOne_88 hl (k := 4) rfl (nI_add v 1) (by decide) rfl (fun ls hl => ?_)
                  refine lv_goto (tgt := 4) hx hb d_Mod_nextOne_91 (by decide) ?_
                  exact ih_4 q1 (v + 1) (nI v) (by omega) (Or.inr (by rw [inB_nI (by omega)]; exact decide_eq_true (by omega))) (by rw [← hv, nO, if_pos ⟨(by simp [mayR, c_16, c_25, c_38]), Or.inr (sm_lt c_83)⟩]) (by omega) _ _ (hP.sub [0, 1, 2, 3, 4, 5] rfl) (hD.sub [0, 1, 2, 3, 4, 5] (by decide) rfl) hS _ (lv_sub hl [3, 4, 1, 0] rfl)
  exact loop_4 25 24 0 ((-1 : Int32)) rfl (Or.inl rfl) rfl (by decide) _ _ (hP.sub [0, 1, 2, 3, 4, 5] rfl) (hD.sub [0, 1, 2, 3, 4, 5] (by decide) rfl) hS _ (lv_sub hl [2, 3, 1, 0] rfl)
theorem d_Mod_nextOne_44 : decode prog_7_method_16_code 44 = .ok (.aload_n 0, 1) := by decide +kernel
theorem d_Mod_nextOne_45 : decode prog_7_method_16_code 45 = .ok (.getfield 39, 3) := by decide +kernel
theorem mw_620 : Cond.fieldLink "ScanMillModel" 39 "ScanMillModel" "register" "[I" ∈ wG := wG_t 620 (by decide +kernel) (by decide +kernel)
theorem d_Mod_nextOne_48 : decode prog_7_method_16_code 48 = .ok (.iload_n 3, 1) := by decide +kernel
theorem d_Mod_nextOne_49 : decode prog_7_method_16_code 49 = .ok (.iaload, 1) := by decide +kernel
theorem d_Mod_nextOne_50 : decode prog_7_method_16_code 50 = .ok (.iconst (-1), 1) := by decide +kernel
theorem d_Mod_nextOne_51 : decode prog_7_method_16_code 51 = .ok (.if_icmp .ne 7, 3) := by decide +kernel
set_option maxRecDepth 100000 in
set_option maxHeartbeats 4000000 in
theorem c_Mod_nextOneS {l : Launch} {dC : Nat → ClassId} {dI : Nat → Nat → Nat} {cI cZ : ClassId} {md d1 d2 d3 d4 d5 d6 d7 d8 d9 da db dc dd de df dg dh n wt nr ns sp cl2 np ww : Nat} {th isS sta nx : Int32} {mf mi mo mr mg : Nat → Int32}  : sm_I l y_Mod_nextOne prog_7_method_16_code 5 (some .int) (rmF 0 0) (dC, dI) smC [(cI, .int), (cZ, .boolean)] [.ref md, .int ((0 : Int32))] [(md, .inr (5, [.int th, .int (nI n), .ref d1, .ref d2, .ref d3, .ref d4, .int (nI wt), .int isS, .int (nI nr), .int (nI ns), .ref d5, .ref d6, .ref d7, .ref d8, .ref d9, .ref da, .ref db, .int sta, .int nx, .int (nI sp), .int (nI cl2), .int (nI np), .ref dc, .ref dd, .ref de, .int (nI ww), .ref df, .ref dg, .ref dh])), (d5, .inl (cI, 24, .inl mf)), (d7, .inl (cZ, 24, .inl mi)), (d8, .inl (cZ, 24, .inl mo)), (d9, .inl (cI, 24, .inl mr)), (dh, .inl (cZ, 24, .inl mg))] (fun q w2 => q = (nO (mayS mi mg mr) mf 24 0 (-1)) ∧ w2 = [(md, .inr (5, [.int th, .int (nI n), .ref d1, .ref d2, .ref d3, .ref d4, .int (nI wt), .int isS, .int (nI nr), .int (nI ns), .ref d5, .ref d6, .ref d7, .ref d8, .ref d9, .ref da, .ref db, .int sta, .int nx, .int (nI sp), .int (nI cl2), .int (nI np), .ref dc, .ref dd, .ref de, .int (nI ww), .ref df, .ref dg, .ref dh])), (d5, .inl (cI, 24, .inl mf)), (d7, .inl (cZ, 24, .inl mi)), (d8, .inl (cZ, 24, .inl mo)), (d9, .inl (cI, 24, .inl mr)), (dh, .inl (cZ, 24, .inl (ngo mg (nO (mayS mi mg mr) mf 24 0 (-1)))))]) := by
  refine sm_I.mk (by decide) (Nat.le_of_ble_eq_true rfl) ?_
  intro p e s m below meth c A H locs ls hx hb hr ht hown hlocks hml hnm hP hK hD hA hS hN hl
  have hl : lv_has ls 5 [(0, .ref md), (1, .int ((0 : Int32)))] := hl
  refine lv_iconst (v := -1) hx hb d_Mod_nextOne_0 (by decide) ?_
  refine lv_istore_n (lv' := [(2, .int ((-1 : Int32))), (0, .ref md), (1, .int ((0 : Int32)))]) hx hb d_Mod_nextOne_1 rfl hl (by decide) rfl (fun ls hl => ?_)
  refine lv_iconst (v := 0) hx hb d_Mod_nextOne_2 (by decide) ?_
  refine lv_istore_n (lv' := [(3, .int ((0 : Int32))), (2, .int ((-1 : Int32))), (0, .ref md), (1, .int ((0 : Int32)))]) hx hb d_Mod_nextOne_3 rfl hl (by decide) rfl (fun ls hl => ?_)
  have loop_4 : ∀ (N_4 : Nat) (q : Nat) (v : Nat) (bs : Int32), (q + v = 24) → (bs = -1 ∨ inB bs 24 = true) → (nO (mayS mi mg mr) mf q v bs = nO (mayS mi mg mr) mf 24 0 (-1)) → q < N_4 → ∀ (H : Heap) (locs : List Loc), va_P (dC, dI) smC [(md, .inr (5, [.int th, .int (nI n), .ref d1, .ref d2, .ref d3, .ref d4, .int (nI wt), .int isS, .int (nI nr), .int (nI ns), .ref d5, .ref d6, .ref d7, .ref d8, .ref d9, .ref da, .ref db, .int sta, .int nx, .int (nI sp), .int (nI cl2), .int (nI np), .ref dc, .ref dd, .ref de, .int (nI ww), .ref df, .ref dg, .ref dh])), (d5, .inl (cI, 24, .inl mf)), (d7, .inl (cZ, 24, .inl mi)), (d8, .inl (cZ, 24, .inl mo)), (d9, .inl (cI, 24, .inl mr)), (dh, .inl (cZ, 24, .inl mg))] H → va_D A [(md, .inr (5, [.int th, .int (nI n), .ref d1, .ref d2, .ref d3, .ref d4, .int (nI wt), .int isS, .int (nI nr), .int (nI ns), .ref d5, .ref d6, .ref d7, .ref d8, .ref d9, .ref da, .ref db, .int sta, .int nx, .int (nI sp), .int (nI cl2), .int (nI np), .ref dc, .ref dd, .ref de, .int (nI ww), .ref df, .ref dg, .ref dh])), (d5, .inl (cI, 24, .inl mf)), (d7, .inl (cZ, 24, .inl mi)), (d8, .inl (cZ, 24, .inl mo)), (d9, .inl (cI, 24, .inl mr)), (dh, .inl (cZ, 24, .inl mg))] → va_S A s.heap H locs → ∀ ls : Array Slot, lv_has ls 5 [(0, .ref md), (1, .int ((0 : Int32))), (2, .int bs), (3, .int (nI v))] → W p l e (rmF 0 0) s m ([.ref md, .int ((0 : Int32))] : List Value).toArray below meth c H locs 0 0 (MQ below (va_Qi (fun q w2 => q = (nO (mayS mi mg mr) mf 24 0 (-1)) ∧ w2 = [(md, .inr (5, [.int th, .int (nI n), .ref d1, .ref d2, .ref d3, .ref d4, .int (nI wt), .int isS, .int (nI nr), .int (nI ns), .ref d5, .ref d6, .ref d7, .ref d8, .ref d9, .ref da, .ref db, .int sta, .int nx, .int (nI sp), .int (nI cl2), .int (nI np), .ref dc, .ref dd, .ref de, .int (nI ww), .ref df, .ref dg, .ref dh])), (d5, .inl (cI, 24, .inl mf)), (d7, .inl (cZ, 24, .inl mi)), (d8, .inl (cZ, 24, .inl mo)), (d9, .inl (cI, 24, .inl mr)), (dh, .inl (cZ, 24, .inl (ngo mg (nO (mayS mi mg mr) mf 24 0 (-1)))))]) (sm_B (dC, dI) smC [(cI, .int), (cZ, .boolean)] A) A) ([.ref md, .int ((0 : Int32))] : List Value).toArray s 0 0 A) (F0 m 4 ls []) := by
    intro N_4
    induction N_4 with
    | zero => intro q v bs _ _ _ z; exact absurd z (Nat.not_lt_zero _)
    | succ N_4 ih_4 =>
      intro q v bs hqv hbs hv m_4 H locs hP hD hS ls hl
      refine lv_iload_n hx hb d_Mod_nextOne_4 rfl (lv_at hl 3 rfl) ?_
      refine lv_bipush (v := 24) hx hb d_Mod_nextOne_5 (by decide) ?_
      refine lv_icmp_ge (tgt := 94) hx hb d_Mod_nextOne_7 (by decide) (fun c_7 => ?_) (fun c_7 => ?_)
      · skip
        have f_7 : 24 ≤ v := (nI_leI (a := 24) (b := v) (by first | omega | decide) (by first | omega | decide)).mp c_7
        obtain rfl : q = 0 := by omega
        have hbe : bs = nO (mayS mi mg mr) mf 24 0 (-1) := hv
        refine lv_iload_n hx hb d_Mod_nextOne_94 rfl (lv_at hl 2 rfl) ?_
        refine lv_iconst (v := -1) hx hb d_Mod_nextOne_95 (by decide) ?_
        refine lv_icmp_eq (tgt := 106) hx hb d_Mod_nextOne_96 (by decide) (fun c_96 => ?_) (fun c_96 => ?_)
        · skip
          refine lv_iload_n hx hb d_Mod_nextOne_106 rfl (lv_at hl 2 rfl) ?_
          refine sm_ri (v := bs) (ws := [(md, .inr (5, [.int th, .int (nI n), .ref d1, .ref d2, .ref d3, .ref d4, .int (nI wt), .int isS, .int (nI nr), .int (nI ns), .ref d5, .ref d6, .ref d7, .ref d8, .ref d9, .ref da, .ref db, .int sta, .int nx, .int (nI sp), .int (nI cl2), .int (nI np), .ref dc, .ref dd, .ref de, .int (nI ww), .ref df, .ref dg, .ref dh])), (d5, .inl (cI, 24, .inl mf)), (d7, .inl (cZ, 24, .inl mi)), (d8, .inl (cZ, 24, .inl mo)), (d9, .inl (cI, 24, .inl mr)), (dh, .inl (cZ, 24, .inl mg))]) hx hb hr hlocks hK (hP.sub [0, 1, 2, 3, 4, 5] rfl) (hD.sub [0, 1, 2, 3, 4, 5] (by decide) rfl) hS ?_ d_Mod_nextOne_107
          exact ⟨hbe, by rw [← hbe, ngo, if_pos c_96]⟩
        · skip
          refine lv_aload_n hx hb d_Mod_nextOne_99 rfl (lv_at hl 0 rfl) ?_
          refine va_get (D := (dC, dI)) (ci := 5) (v := .ref dh) (C := R_Mod) (T := T_Mod) (N := 29) hx hb ht i_Mod hown hK hP 0 rfl rfl 28 (by decide) (ht _ mw_634) (fun _ h9 => h9) rfl d_Mod_nextOne_100 ?_
          refine lv_iload_n hx hb d_Mod_nextOne_103 rfl (lv_at hl 2 rfl) ?_
          refine lv_iconst (v := 1) hx hb d_Mod_nextOne_104 (by decide) ?_
          refine sm_zast (j := bs.toNatClampNeg) hx hb hK hP hD hS 5 1 rfl rfl (sm_inB (hbs.resolve_left c_96)) rfl (by decide) d_Mod_nextOne_105 (fun H locs hP hD hS => ?_)
          have hP : va_P (dC, dI) smC [(md, .inr (5, [.int th, .int (nI n), .ref d1, .ref d2, .ref d3, .ref d4, .int (nI wt), .int isS, .int (nI nr), .int (nI ns), .ref d5, .ref d6, .ref d7, .ref d8, .ref d9, .ref da, .ref db, .int sta, .int nx, .int (nI sp), .int (nI cl2), .int (nI np), .ref dc, .ref dd, .ref de, .int (nI ww), .ref df, .ref dg, .ref dh])), (d5, .inl (cI, 24, .inl mf)), (d7, .inl (cZ, 24, .inl mi)), (d8, .inl (cZ, 24, .inl mo)), (d9, .inl (cI, 24, .inl mr)), (dh, .inl (cZ, 24, .inl (upd mg bs.toNatClampNeg ((1 : Int32)))))] H := hP
          have hD : va_D A [(md, .inr (5, [.int th, .int (nI n), .ref d1, .ref d2, .ref d3, .ref d4, .int (nI wt), .int isS, .int (nI nr), .int (nI ns), .ref d5, .ref d6, .ref d7, .ref d8, .ref d9, .ref da, .ref db, .int sta, .int nx, .int (nI sp), .int (nI cl2), .int (nI np), .ref dc, .ref dd, .ref de, .int (nI ww), .ref df, .ref dg, .ref dh])), (d5, .inl (cI, 24, .inl mf)), (d7, .inl (cZ, 24, .inl mi)), (d8, .inl (cZ, 24, .inl mo)), (d9, .inl (cI, 24, .inl mr)), (dh, .inl (cZ, 24, .inl (upd mg bs.toNatClampNeg ((1 : Int32)))))] := hD
          refine lv_iload_n hx hb d_Mod_nextOne_106 rfl (lv_at hl 2 rfl) ?_
          refine sm_ri (v := bs) (ws := [(md, .inr (5, [.int th, .int (nI n), .ref d1, .ref d2, .ref d3, .ref d4, .int (nI wt), .int isS, .int (nI nr), .int (nI ns), .ref d5, .ref d6, .ref d7, .ref d8, .ref d9, .ref da, .ref db, .int sta, .int nx, .int (nI sp), .int (nI cl2), .int (nI np), .ref dc, .ref dd, .ref de, .int (nI ww), .ref df, .ref dg, .ref dh])), (d5, .inl (cI, 24, .inl mf)), (d7, .inl (cZ, 24, .inl mi)), (d8, .inl (cZ, 24, .inl mo)), (d9, .inl (cI, 24, .inl mr)), (dh, .inl (cZ, 24, .inl (upd mg bs.toNatClampNeg ((1 : Int32)))))]) hx hb hr hlocks hK (hP.sub [0, 1, 2, 3, 4, 5] rfl) (hD.sub [0, 1, 2, 3, 4, 5] (by decide) rfl) hS ?_ d_Mod_nextOne_107
          exact ⟨hbe, by rw [← hbe, ngo, if_neg c_96]⟩
      · skip
        have f_7 : ¬ 24 ≤ v := fun z => c_7 ((nI_leI (a := 24) (b := v) (by first | omega | decide) (by first | omega | decide)).mpr z)
        obtain ⟨q1, rfl⟩ : ∃ z, q = z + 1 := ⟨q - 1, by omega⟩
        refine lv_aload_n hx hb d_Mod_nextOne_10 rfl (lv_at hl 0 rfl) ?_
        refine va_get (D := (dC, dI)) (ci := 5) (v := .ref d7) (C := R_Mod) (T := T_Mod) (N := 29) hx hb ht i_Mod hown hK hP 0 rfl rfl 12 (by decide) (ht _ mw_618) (fun _ h9 => h9) rfl d_Mod_nextOne_11 ?_
        refine lv_iload_n hx hb d_Mod_nextOne_14 rfl (lv_at hl 3 rfl) ?_
        refine sm_zald (j := v) hx hb hK hP 2 1 rfl rfl (vp_in_nI (by first | omega | assumption) (by first | decide | omega)) (nI_clamp (by first | omega | (have := sm_lt31; omega))) d_Mod_nextOne_15 ?_
        refine lv_if_eq (tgt := 58) hx hb d_Mod_nextOne_16 (by decide) (fun c_16 => ?_) (fun c_16 => ?_)
        · skip
          refine lv_iconst (v := 0) hx hb d_Mod_nextOne_58 (by decide) ?_
          refine lv_istore (lv' := [(4, .int ((0 : Int32))), (0, .ref md), (1, .int ((0 : Int32))), (2, .int bs), (3, .int (nI v))]) hx hb d_Mod_nextOne_59 hl (by decide) rfl (fun ls hl => ?_)
          refine lv_iload hx hb d_Mod_nextOne_61 (lv_at hl 0 rfl) ?_
          refine lv_if_eq (tgt := 88) hx hb d_Mod_nextOne_63 (by decide) (fun _ => ?_) (fun z => absurd z (by decide))
          refine lv_iinc (v := nI (v + 1)) (lv' := [(3, .int (nI (v + 1))), (4, .int ((0 : Int32))), (0, .ref md), (1, .int ((0 : Int32))), (2, .int bs)]) hx hb d_Mod_nextOne_88 hl (k := 4) rfl (nI_add v 1) (by decide) rfl (fun ls hl => ?_)
          refine lv_goto (tgt := 4) hx hb d_Mod_nextOne_91 (by decide) ?_
          exact ih_4 q1 (v + 1) bs (by omega) hbs (by rw [← hv, nO, if_neg (fun z => absurd z.1 (by simp [mayS, c_16]))]) (by omega) _ _ (hP.sub [0, 1, 2, 3, 4, 5] rfl) (hD.sub [0, 1, 2, 3, 4, 5] (by decide) rfl) hS _ (lv_sub hl [2, 3, 4, 0] rfl)
        · skip
          refine lv_aload_n hx hb d_Mod_nextOne_19 rfl (lv_at hl 0 rfl) ?_
          refine va_get (D := (dC, dI)) (ci := 5) (v := .ref dh) (C := R_Mod) (T := T_Mod) (N := 29) hx hb ht i_Mod hown hK hP 0 rfl rfl 28 (by decide) (ht _ mw_634) (fun _ h9 => h9) rfl d_Mod_nextOne_20 ?_
          refine lv_iload_n hx hb d_Mod_nextOne_23 rfl (lv_at hl 3 rfl) ?_
          refine sm_zald (j := v) hx hb hK hP 5 1 rfl rfl (vp_in_nI (by first | omega | assumption) (by first | decide | omega)) (nI_clamp (by first | omega | (have := sm_lt31; omega))) d_Mod_nextOne_24 ?_
          refine lv_if_ne (tgt := 58) hx hb d_Mod_nextOne_25 (by decide) (fun c_25 => ?_) (fun c_25 => ?_)
          · skip
            refine lv_iconst (v := 0) hx hb d_Mod_nextOne_58 (by decide) ?_
            refine lv_istore (lv' := [(4, .int ((0 : Int32))), (0, .ref md), (1, .int ((0 : Int32))), (2, .int bs), (3, .int (nI v))]) hx hb d_Mod_nextOne_59 hl (by decide) rfl (fun ls hl => ?_)
            refine lv_iload hx hb d_Mod_nextOne_61 (lv_at hl 0 rfl) ?_
            refine lv_if_eq (tgt := 88) hx hb d_Mod_nextOne_63 (by decide) (fun _ => ?_) (fun z => absurd z (by decide))
            refine lv_iinc (v := nI (v + 1)) (lv' := [(3, .int (nI (v + 1))), (4, .int ((0 : Int32))), (0, .ref md), (1, .int ((0 : Int32))), (2, .int bs)]) hx hb d_Mod_nextOne_88 hl (k := 4) rfl (nI_add v 1) (by decide) rfl (fun ls hl => ?_)
            refine lv_goto (tgt := 4) hx hb d_Mod_nextOne_91 (by decide) ?_
            exact ih_4 q1 (v + 1) bs (by omega) hbs (by rw [← hv, nO, if_neg (fun z => absurd z.1 (by simp [mayS, c_16, c_25]))]) (by omega) _ _ (hP.sub [0, 1, 2, 3, 4, 5] rfl) (hD.sub [0, 1, 2, 3, 4, 5] (by decide) rfl) hS _ (lv_sub hl [2, 3, 4, 0] rfl)
          · skip
            refine lv_iload_n hx hb d_Mod_nextOne_28 rfl (lv_at hl 1 rfl) ?_
            refine lv_if_eq (tgt := 44) hx hb d_Mod_nextOne_29 (by decide) (fun _ => ?_) (fun z => absurd z (by decide))
            refine lv_aload_n hx hb d_Mod_nextOne_44 rfl (lv_at hl 0 rfl) ?_
            refine va_get (D := (dC, dI)) (ci := 5) (v := .ref d9) (C := R_Mod) (T := T_Mod) (N := 29) hx hb ht i_Mod hown hK hP 0 rfl rfl 14 (by decide) (ht _ mw_620) (fun _ h9 => h9) rfl d_Mod_nextOne_45 ?_
            refine lv_iload_n hx hb d_Mod_nextOne_48 rfl (lv_at hl 3 rfl) ?_
            refine sm_iald (j := v) hx hb hK hP 4 0 rfl rfl (vp_in_nI (by first | omega | assumption) (by first | decide | omega)) (nI_clamp (by first | omega | (have := sm_lt31; omega))) d_Mod_nextOne_49 ?_
            refine lv_iconst (v := -1) hx hb d_Mod_nextOne_50 (by decide) ?_
            refine lv_icmp_ne (tgt := 58) hx hb d_Mod_nextOne_51 (by decide) (fun c_51 => ?_) (fun c_51 => ?_)
            · skip
              refine lv_iconst (v := 0) hx hb d_Mod_nextOne_58 (by decide) ?_
              refine lv_istore (lv' := [(4, .int ((0 : Int32))), (0, .ref md), (1, .int ((0 : Int32))), (2, .int bs), (3, .int (nI v))]) hx hb d_Mod_nextOne_59 hl (by decide) rfl (fun ls hl => ?_)
              refine lv_iload hx hb d_Mod_nextOne_61 (lv_at hl 0 rfl) ?_
              refine lv_if_eq (tgt := 88) hx hb d_Mod_nextOne_63 (by decide) (fun _ => ?_) (fun z => absurd z (by decide))
              refine lv_iinc (v := nI (v + 1)) (lv' := [(3, .int (nI (v + 1))), (4, .int ((0 : Int32))), (0, .ref md), (1, .int ((0 : Int32))), (2, .int bs)]) hx hb d_Mod_nextOne_88 hl (k := 4) rfl (nI_add v 1) (by decide) rfl (fun ls hl => ?_)
              refine lv_goto (tgt := 4) hx hb d_Mod_nextOne_91 (by decide) ?_
              exact ih_4 q1 (v + 1) bs (by omega) hbs (by rw [← hv, nO, if_neg (fun z => absurd z.1 (by simp [mayS, c_16, c_25, c_51]))]) (by omega) _ _ (hP.sub [0, 1, 2, 3, 4, 5] rfl) (hD.sub [0, 1, 2, 3, 4, 5] (by decide) rfl) hS _ (lv_sub hl [2, 3, 4, 0] rfl)
            · skip
              refine lv_iconst (v := 1) hx hb d_Mod_nextOne_54 (by decide) ?_
              refine lv_goto (tgt := 59) hx hb d_Mod_nextOne_55 (by decide) ?_
              refine lv_istore (lv' := [(4, .int ((1 : Int32))), (0, .ref md), (1, .int ((0 : Int32))), (2, .int bs), (3, .int (nI v))]) hx hb d_Mod_nextOne_59 hl (by decide) rfl (fun ls hl => ?_)
              refine lv_iload hx hb d_Mod_nextOne_61 (lv_at hl 0 rfl) ?_
              refine lv_if_eq (tgt := 88) hx hb d_Mod_nextOne_63 (by decide) (fun z => absurd z (by decide)) (fun _ => ?_)
              refine lv_iload_n hx hb d_Mod_nextOne_66 rfl (lv_at hl 3 rfl) ?_
              refine lv_iconst (v := -1) hx hb d_Mod_nextOne_67 (by decide) ?_
              refine lv_icmp_eq (tgt := 86) hx hb d_Mod_nextOne_68 (by decide) (fun c_68 => ?_) (fun c_68 => ?_)
              · skip
                refine lv_iload_n hx hb d_Mod_nextOne_86 rfl (lv_at hl 4 rfl) ?_
                refine lv_istore_n (lv' := [(2, .int (nI v)), (4, .int ((1 : Int32))), (0, .ref md), (1, .int ((0 : Int32))), (3, .int (nI v))]) hx hb d_Mod_nextOne_87 rfl hl (by decide) rfl (fun ls hl => ?_)
                refine lv_iinc (v := nI (v + 1)) (lv' := [(3, .int (nI (v + 1))), (2, .int (nI v)), (4, .int ((1 : Int32))), (0, .ref md), (1, .int ((0 : Int32)))]) hx hb d_Mod_nextOne_88 hl (k := 4) rfl (nI_add v 1) (by decide) rfl (fun ls hl => ?_)
                refine lv_goto (tgt := 4) hx hb d_Mod_nextOne_91 (by decide) ?_
                exact ih_4 q1 (v + 1) (nI v) (by omega) (Or.inr (by rw [inB_nI (by omega)]; exact decide_eq_true (by omega))) (by rw [← hv, nO, if_pos ⟨(by simp [mayS, c_16, c_25, c_51]), Or.inl c_68⟩]) (by omega) _ _ (hP.sub [0, 1, 2, 3, 4, 5] rfl) (hD.sub [0, 1, 2, 3, 4, 5] (by decide) rfl) hS _ (lv_sub hl [3, 4, 1, 0] rfl)
              · skip
                refine lv_aload_n hx hb d_Mod_nextOne_71 rfl (lv_at hl 1 rfl) ?_
                refine va_get (D := (dC, dI)) (ci := 5) (v := .ref d5) (C := R_Mod) (T := T_Mod) (N := 29) hx hb ht i_Mod hown hK hP 0 rfl rfl 10 (by decide) (ht _ mw_616) (fun _ h9 => h9) rfl d_Mod_nextOne_72 ?_
                refine lv_iload_n hx hb d_Mod_nextOne_75 rfl (lv_at hl 4 rfl) ?_
                refine sm_iald (j := v) hx hb hK hP 1 0 rfl rfl (vp_in_nI (by first | omega | assumption) (by first | decide | omega)) (nI_clamp (by first | omega | (have := sm_lt31; omega))) d_Mod_nextOne_76 ?_
                refine lv_aload_n hx hb d_Mod_nextOne_77 rfl (lv_at hl 1 rfl) ?_
                refine va_get (D := (dC, dI)) (ci := 5) (v := .ref d5) (C := R_Mod) (T := T_Mod) (N := 29) hx hb ht i_Mod hown hK hP 0 rfl rfl 10 (by decide) (ht _ mw_616) (fun _ h9 => h9) rfl d_Mod_nextOne_78 ?_
                refine lv_iload_n hx hb d_Mod_nextOne_81 rfl (lv_at hl 3 rfl) ?_
                refine sm_iald (j := bs.toNatClampNeg) hx hb hK hP 1 0 rfl rfl (sm_inB (hbs.resolve_left c_68)) rfl d_Mod_nextOne_82 ?_
                refine lv_icmp_ge (tgt := 88) hx hb d_Mod_nextOne_83 (by decide) (fun c_83 => ?_) (fun c_83 => ?_)
                · skip
                  refine lv_iinc (v := nI (v + 1)) (lv' := [(3, .int (nI (v + 1))), (4, .int ((1 : Int32))), (0, .ref md), (1, .int ((0 : Int32))), (2, .int bs)]) hx hb d_Mod_nextOne_88 hl (k := 4) rfl (nI_add v 1) (by decide) rfl (fun ls hl => ?_)
                  refine lv_goto (tgt := 4) hx hb d_Mod_nextOne_91 (by decide) ?_
                  exact ih_4 q1 (v + 1) bs (by omega) hbs (by rw [← hv, nO, if_neg (fun z => z.2.elim c_68 (sm_nlt c_83))]) (by omega) _ _ (hP.sub [0, 1, 2, 3, 4, 5] rfl) (hD.sub [0, 1, 2, 3, 4, 5] (by decide) rfl) hS _ (lv_sub hl [2, 3, 4, 0] rfl)
                · skip
                  refine lv_iload_n hx hb d_Mod_nextOne_86 rfl (lv_at hl 4 rfl) ?_
                  refine lv_istore_n (lv' := [(2, .int (nI v)), (4, .int ((1 : Int32))), (0, .ref md), (1, .int ((0 : Int32))), (3, .int (nI v))]) hx hb d_Mod_nextOne_87 rfl hl (by decide) rfl (fun ls hl => ?_)
                  refine lv_iinc (v := nI (v + 1)) (lv' := [(3, .int (nI (v + 1))), (2, .int (nI v)), (4, .int ((1 : Int32))), (0, .ref md), (1, .int ((0 : Int32)))]) hx hb d_Mod_nextOne_88 hl (k := 4) rfl (nI_add v 1) (by decide) rfl (fun ls hl => ?_)
                  refine lv_goto (tgt := 4) hx hb d_Mod_nextOne_91 (by decide) ?_
                  exact ih_4 q1 (v + 1) (nI v) (by omega) (Or.inr (by rw [inB_nI (by omega)]; exact decide_eq_true (by omega))) (by rw [← hv, nO, if_pos ⟨(by simp [mayS, c_16, c_25, c_51]), Or.inr (sm_lt c_83)⟩]) (by omega) _ _ (hP.sub [0, 1, 2, 3, 4, 5] rfl) (hD.sub [0, 1, 2, 3, 4, 5] (by decide) rfl) hS _ (lv_sub hl [3, 4, 1, 0] rfl)
  exact loop_4 25 24 0 ((-1 : Int32)) rfl (Or.inl rfl) rfl (by decide) _ _ (hP.sub [0, 1, 2, 3, 4, 5] rfl) (hD.sub [0, 1, 2, 3, 4, 5] (by decide) rfl) hS _ (lv_sub hl [2, 3, 1, 0] rfl)
abbrev y_Mod_giveRegister : MethodName := ⟨"ScanMillModel", "giveRegister", "(I)V"⟩
theorem d_Mod_giveRegister_0 : decode prog_7_method_17_code 0 = .ok (.iconst 0, 1) := by decide +kernel
theorem d_Mod_giveRegister_1 : decode prog_7_method_17_code 1 = .ok (.istore_n 2, 1) := by decide +kernel
theorem d_Mod_giveRegister_2 : decode prog_7_method_17_code 2 = .ok (.iconst 0, 1) := by decide +kernel
theorem d_Mod_giveRegister_3 : decode prog_7_method_17_code 3 = .ok (.istore_n 3, 1) := by decide +kernel
theorem d_Mod_giveRegister_4 : decode prog_7_method_17_code 4 = .ok (.iload_n 3, 1) := by decide +kernel
theorem d_Mod_giveRegister_5 : decode prog_7_method_17_code 5 = .ok (.aload_n 0, 1) := by decide +kernel
theorem d_Mod_giveRegister_6 : decode prog_7_method_17_code 6 = .ok (.getfield 111, 3) := by decide +kernel
theorem mw_614 : Cond.fieldLink "ScanMillModel" 111 "ScanMillModel" "registers" "I" ∈ wG := wG_t 614 (by decide +kernel) (by decide +kernel)
theorem d_Mod_giveRegister_9 : decode prog_7_method_17_code 9 = .ok (.if_icmp .ge 81, 3) := by decide +kernel
theorem d_Mod_giveRegister_90 : decode prog_7_method_17_code 90 = .ok (.aload_n 0, 1) := by decide +kernel
theorem d_Mod_giveRegister_91 : decode prog_7_method_17_code 91 = .ok (.getfield 29, 3) := by decide +kernel
theorem d_Mod_giveRegister_94 : decode prog_7_method_17_code 94 = .ok (.aload_n 0, 1) := by decide +kernel
theorem d_Mod_giveRegister_95 : decode prog_7_method_17_code 95 = .ok (.getfield 45, 3) := by decide +kernel
theorem d_Mod_giveRegister_98 : decode prog_7_method_17_code 98 = .ok (.iload_n 2, 1) := by decide +kernel
theorem d_Mod_giveRegister_99 : decode prog_7_method_17_code 99 = .ok (.iaload, 1) := by decide +kernel
theorem d_Mod_giveRegister_100 : decode prog_7_method_17_code 100 = .ok (.iaload, 1) := by decide +kernel
theorem d_Mod_giveRegister_101 : decode prog_7_method_17_code 101 = .ok (.aload_n 0, 1) := by decide +kernel
theorem d_Mod_giveRegister_102 : decode prog_7_method_17_code 102 = .ok (.getfield 29, 3) := by decide +kernel
theorem d_Mod_giveRegister_105 : decode prog_7_method_17_code 105 = .ok (.iload_n 1, 1) := by decide +kernel
theorem d_Mod_giveRegister_106 : decode prog_7_method_17_code 106 = .ok (.iaload, 1) := by decide +kernel
theorem d_Mod_giveRegister_107 : decode prog_7_method_17_code 107 = .ok (.if_icmp .gt 4, 3) := by decide +kernel
theorem d_Mod_giveRegister_111 : decode prog_7_method_17_code 111 = .ok (.aload_n 0, 1) := by decide +kernel
theorem d_Mod_giveRegister_112 : decode prog_7_method_17_code 112 = .ok (.getfield 39, 3) := by decide +kernel
theorem d_Mod_giveRegister_115 : decode prog_7_method_17_code 115 = .ok (.aload_n 0, 1) := by decide +kernel
theorem d_Mod_giveRegister_116 : decode prog_7_method_17_code 116 = .ok (.getfield 45, 3) := by decide +kernel
theorem d_Mod_giveRegister_119 : decode prog_7_method_17_code 119 = .ok (.iload_n 2, 1) := by decide +kernel
theorem d_Mod_giveRegister_120 : decode prog_7_method_17_code 120 = .ok (.iaload, 1) := by decide +kernel
theorem d_Mod_giveRegister_121 : decode prog_7_method_17_code 121 = .ok (.iconst (-1), 1) := by decide +kernel
theorem d_Mod_giveRegister_122 : decode prog_7_method_17_code 122 = .ok (.iastore, 1) := by decide +kernel
theorem d_Mod_giveRegister_123 : decode prog_7_method_17_code 123 = .ok (.aload_n 0, 1) := by decide +kernel
theorem d_Mod_giveRegister_124 : decode prog_7_method_17_code 124 = .ok (.getfield 39, 3) := by decide +kernel
theorem d_Mod_giveRegister_127 : decode prog_7_method_17_code 127 = .ok (.iload_n 1, 1) := by decide +kernel
theorem d_Mod_giveRegister_128 : decode prog_7_method_17_code 128 = .ok (.iload_n 2, 1) := by decide +kernel
theorem d_Mod_giveRegister_129 : decode prog_7_method_17_code 129 = .ok (.iastore, 1) := by decide +kernel
theorem d_Mod_giveRegister_130 : decode prog_7_method_17_code 130 = .ok (.aload_n 0, 1) := by decide +kernel
theorem d_Mod_giveRegister_131 : decode prog_7_method_17_code 131 = .ok (.getfield 45, 3) := by decide +kernel
theorem d_Mod_giveRegister_134 : decode prog_7_method_17_code 134 = .ok (.iload_n 2, 1) := by decide +kernel
theorem d_Mod_giveRegister_135 : decode prog_7_method_17_code 135 = .ok (.iload_n 1, 1) := by decide +kernel
theorem d_Mod_giveRegister_136 : decode prog_7_method_17_code 136 = .ok (.iastore, 1) := by decide +kernel
theorem d_Mod_giveRegister_137 : decode prog_7_method_17_code 137 = .ok (.return_, 1) := by decide +kernel
theorem d_Mod_giveRegister_110 : decode prog_7_method_17_code 110 = .ok (.return_, 1) := by decide +kernel
theorem d_Mod_giveRegister_12 : decode prog_7_method_17_code 12 = .ok (.aload_n 0, 1) := by decide +kernel
theorem d_Mod_giveRegister_13 : decode prog_7_method_17_code 13 = .ok (.getfield 45, 3) := by decide +kernel
theorem d_Mod_giveRegister_16 : decode prog_7_method_17_code 16 = .ok (.iload_n 3, 1) := by decide +kernel
theorem d_Mod_giveRegister_17 : decode prog_7_method_17_code 17 = .ok (.iaload, 1) := by decide +kernel
theorem d_Mod_giveRegister_18 : decode prog_7_method_17_code 18 = .ok (.iconst (-1), 1) := by decide +kernel
theorem d_Mod_giveRegister_19 : decode prog_7_method_17_code 19 = .ok (.if_icmp .eq 23, 3) := by decide +kernel
theorem d_Mod_giveRegister_42 : decode prog_7_method_17_code 42 = .ok (.aload_n 0, 1) := by decide +kernel
theorem d_Mod_giveRegister_43 : decode prog_7_method_17_code 43 = .ok (.getfield 39, 3) := by decide +kernel
theorem d_Mod_giveRegister_46 : decode prog_7_method_17_code 46 = .ok (.iload_n 1, 1) := by decide +kernel
theorem d_Mod_giveRegister_47 : decode prog_7_method_17_code 47 = .ok (.iload_n 3, 1) := by decide +kernel
theorem d_Mod_giveRegister_48 : decode prog_7_method_17_code 48 = .ok (.iastore, 1) := by decide +kernel
theorem d_Mod_giveRegister_49 : decode prog_7_method_17_code 49 = .ok (.aload_n 0, 1) := by decide +kernel
theorem d_Mod_giveRegister_50 : decode prog_7_method_17_code 50 = .ok (.getfield 45, 3) := by decide +kernel
theorem d_Mod_giveRegister_53 : decode prog_7_method_17_code 53 = .ok (.iload_n 3, 1) := by decide +kernel
theorem d_Mod_giveRegister_54 : decode prog_7_method_17_code 54 = .ok (.iload_n 1, 1) := by decide +kernel
theorem d_Mod_giveRegister_55 : decode prog_7_method_17_code 55 = .ok (.iastore, 1) := by decide +kernel
theorem d_Mod_giveRegister_56 : decode prog_7_method_17_code 56 = .ok (.return_, 1) := by decide +kernel
theorem d_Mod_giveRegister_22 : decode prog_7_method_17_code 22 = .ok (.aload_n 0, 1) := by decide +kernel
theorem d_Mod_giveRegister_23 : decode prog_7_method_17_code 23 = .ok (.getfield 29, 3) := by decide +kernel
theorem d_Mod_giveRegister_26 : decode prog_7_method_17_code 26 = .ok (.aload_n 0, 1) := by decide +kernel
theorem d_Mod_giveRegister_27 : decode prog_7_method_17_code 27 = .ok (.getfield 45, 3) := by decide +kernel
theorem d_Mod_giveRegister_30 : decode prog_7_method_17_code 30 = .ok (.iload_n 3, 1) := by decide +kernel
theorem d_Mod_giveRegister_31 : decode prog_7_method_17_code 31 = .ok (.iaload, 1) := by decide +kernel
theorem d_Mod_giveRegister_32 : decode prog_7_method_17_code 32 = .ok (.iaload, 1) := by decide +kernel
theorem d_Mod_giveRegister_33 : decode prog_7_method_17_code 33 = .ok (.aload_n 0, 1) := by decide +kernel
theorem d_Mod_giveRegister_34 : decode prog_7_method_17_code 34 = .ok (.getfield 26, 3) := by decide +kernel
theorem d_Mod_giveRegister_37 : decode prog_7_method_17_code 37 = .ok (.iload_n 1, 1) := by decide +kernel
theorem d_Mod_giveRegister_38 : decode prog_7_method_17_code 38 = .ok (.iaload, 1) := by decide +kernel
theorem d_Mod_giveRegister_39 : decode prog_7_method_17_code 39 = .ok (.if_icmp .ge 18, 3) := by decide +kernel
theorem d_Mod_giveRegister_57 : decode prog_7_method_17_code 57 = .ok (.aload_n 0, 1) := by decide +kernel
theorem d_Mod_giveRegister_58 : decode prog_7_method_17_code 58 = .ok (.getfield 29, 3) := by decide +kernel
theorem d_Mod_giveRegister_61 : decode prog_7_method_17_code 61 = .ok (.aload_n 0, 1) := by decide +kernel
theorem d_Mod_giveRegister_62 : decode prog_7_method_17_code 62 = .ok (.getfield 45, 3) := by decide +kernel
theorem d_Mod_giveRegister_65 : decode prog_7_method_17_code 65 = .ok (.iload_n 3, 1) := by decide +kernel
theorem d_Mod_giveRegister_66 : decode prog_7_method_17_code 66 = .ok (.iaload, 1) := by decide +kernel
theorem d_Mod_giveRegister_67 : decode prog_7_method_17_code 67 = .ok (.iaload, 1) := by decide +kernel
theorem d_Mod_giveRegister_68 : decode prog_7_method_17_code 68 = .ok (.aload_n 0, 1) := by decide +kernel
theorem d_Mod_giveRegister_69 : decode prog_7_method_17_code 69 = .ok (.getfield 29, 3) := by decide +kernel
theorem d_Mod_giveRegister_72 : decode prog_7_method_17_code 72 = .ok (.aload_n 0, 1) := by decide +kernel
theorem d_Mod_giveRegister_73 : decode prog_7_method_17_code 73 = .ok (.getfield 45, 3) := by decide +kernel
theorem d_Mod_giveRegister_76 : decode prog_7_method_17_code 76 = .ok (.iload_n 2, 1) := by decide +kernel
theorem d_Mod_giveRegister_77 : decode prog_7_method_17_code 77 = .ok (.iaload, 1) := by decide +kernel
theorem d_Mod_giveRegister_78 : decode prog_7_method_17_code 78 = .ok (.iaload, 1) := by decide +kernel
theorem d_Mod_giveRegister_79 : decode prog_7_method_17_code 79 = .ok (.if_icmp .lt 5, 3) := by decide +kernel
theorem d_Mod_giveRegister_84 : decode prog_7_method_17_code 84 = .ok (.iinc 3 1, 3) := by decide +kernel
theorem d_Mod_giveRegister_87 : decode prog_7_method_17_code 87 = .ok (.goto (-83), 3) := by decide +kernel
theorem d_Mod_giveRegister_82 : decode prog_7_method_17_code 82 = .ok (.iload_n 3, 1) := by decide +kernel
theorem d_Mod_giveRegister_83 : decode prog_7_method_17_code 83 = .ok (.istore_n 2, 1) := by decide +kernel
set_option maxRecDepth 100000 in
set_option maxHeartbeats 4000000 in
theorem c_Mod_giveRegister {l : Launch} {dC : Nat → ClassId} {dI : Nat → Nat → Nat} {cI cZ : ClassId} {md d1 d2 d3 d4 d5 d6 d7 d8 d9 da db dc dd de df dg dh n wt nr ns sp cl2 np ww : Nat} {th isS sta nx : Int32} {mf ml mr mh : Nat → Int32} {x : Int32} (hx1 : inB x 24 = true) (hnr1 : 1 ≤ nr) (hnr8 : nr ≤ 8) (hho : ∀ r, r < nr → mh r = -1 ∨ inB (mh r) 24 = true) : sm_V l y_Mod_giveRegister prog_7_method_17_code 4 none (rmF 0 0) (dC, dI) smC [(cI, .int), (cZ, .boolean)] [.ref md, .int x] [(md, .inr (5, [.int th, .int (nI n), .ref d1, .ref d2, .ref d3, .ref d4, .int (nI wt), .int isS, .int (nI nr), .int (nI ns), .ref d5, .ref d6, .ref d7, .ref d8, .ref d9, .ref da, .ref db, .int sta, .int nx, .int (nI sp), .int (nI cl2), .int (nI np), .ref dc, .ref dd, .ref de, .int (nI ww), .ref df, .ref dg, .ref dh])), (d5, .inl (cI, 24, .inl mf)), (d6, .inl (cI, 24, .inl ml)), (d9, .inl (cI, 24, .inl mr)), (db, .inl (cI, 24, .inl mh))] (fun w2 => w2 = [(md, .inr (5, [.int th, .int (nI n), .ref d1, .ref d2, .ref d3, .ref d4, .int (nI wt), .int isS, .int (nI nr), .int (nI ns), .ref d5, .ref d6, .ref d7, .ref d8, .ref d9, .ref da, .ref db, .int sta, .int nx, .int (nI sp), .int (nI cl2), .int (nI np), .ref dc, .ref dd, .ref de, .int (nI ww), .ref df, .ref dg, .ref dh])), (d5, .inl (cI, 24, .inl mf)), (d6, .inl (cI, 24, .inl ml)), (d9, .inl (cI, 24, .inl ((gmR mf ml mr mh nr x).1))), (db, .inl (cI, 24, .inl ((gmR mf ml mr mh nr x).2)))]) := by
  refine sm_V.mk (by decide) (Nat.le_of_ble_eq_true rfl) ?_
  intro p e s m below meth c A H locs ls hx hb hr ht hown hlocks hml hnm hP hK hD hA hS hN hl
  have hl : lv_has ls 4 [(0, .ref md), (1, .int x)] := hl
  refine lv_iconst (v := 0) hx hb d_Mod_giveRegister_0 (by decide) ?_
  refine lv_istore_n (lv' := [(2, .int ((0 : Int32))), (0, .ref md), (1, .int x)]) hx hb d_Mod_giveRegister_1 rfl hl (by decide) rfl (fun ls hl => ?_)
  refine lv_iconst (v := 0) hx hb d_Mod_giveRegister_2 (by decide) ?_
  refine lv_istore_n (lv' := [(3, .int ((0 : Int32))), (2, .int ((0 : Int32))), (0, .ref md), (1, .int x)]) hx hb d_Mod_giveRegister_3 rfl hl (by decide) rfl (fun ls hl => ?_)
  have loop_4 : ∀ (N_4 : Nat) (q : Nat) (r2 : Nat) (wj : Nat), (q + r2 = nr) → ((r2 = 0 ∧ wj = 0) ∨ (wj < r2 ∧ inB (mh wj) 24 = true)) → (mgL mf ml mh x q r2 wj = mgL mf ml mh x nr 0 0) → q < N_4 → ∀ (H : Heap) (locs : List Loc), va_P (dC, dI) smC [(md, .inr (5, [.int th, .int (nI n), .ref d1, .ref d2, .ref d3, .ref d4, .int (nI wt), .int isS, .int (nI nr), .int (nI ns), .ref d5, .ref d6, .ref d7, .ref d8, .ref d9, .ref da, .ref db, .int sta, .int nx, .int (nI sp), .int (nI cl2), .int (nI np), .ref dc, .ref dd, .ref de, .int (nI ww), .ref df, .ref dg, .ref dh])), (d5, .inl (cI, 24, .inl mf)), (d6, .inl (cI, 24, .inl ml)), (d9, .inl (cI, 24, .inl mr)), (db, .inl (cI, 24, .inl mh))] H → va_D A [(md, .inr (5, [.int th, .int (nI n), .ref d1, .ref d2, .ref d3, .ref d4, .int (nI wt), .int isS, .int (nI nr), .int (nI ns), .ref d5, .ref d6, .ref d7, .ref d8, .ref d9, .ref da, .ref db, .int sta, .int nx, .int (nI sp), .int (nI cl2), .int (nI np), .ref dc, .ref dd, .ref de, .int (nI ww), .ref df, .ref dg, .ref dh])), (d5, .inl (cI, 24, .inl mf)), (d6, .inl (cI, 24, .inl ml)), (d9, .inl (cI, 24, .inl mr)), (db, .inl (cI, 24, .inl mh))] → va_S A s.heap H locs → ∀ ls : Array Slot, lv_has ls 4 [(0, .ref md), (1, .int x), (2, .int (nI wj)), (3, .int (nI r2))] → W p l e (rmF 0 0) s m ([.ref md, .int x] : List Value).toArray below meth c H locs 0 0 (MQ below (va_Qv (fun w2 => w2 = [(md, .inr (5, [.int th, .int (nI n), .ref d1, .ref d2, .ref d3, .ref d4, .int (nI wt), .int isS, .int (nI nr), .int (nI ns), .ref d5, .ref d6, .ref d7, .ref d8, .ref d9, .ref da, .ref db, .int sta, .int nx, .int (nI sp), .int (nI cl2), .int (nI np), .ref dc, .ref dd, .ref de, .int (nI ww), .ref df, .ref dg, .ref dh])), (d5, .inl (cI, 24, .inl mf)), (d6, .inl (cI, 24, .inl ml)), (d9, .inl (cI, 24, .inl ((gmR mf ml mr mh nr x).1))), (db, .inl (cI, 24, .inl ((gmR mf ml mr mh nr x).2)))]) (sm_B (dC, dI) smC [(cI, .int), (cZ, .boolean)] A) A) ([.ref md, .int x] : List Value).toArray s 0 0 A) (F0 m 4 ls []) := by
    intro N_4
    induction N_4 with
    | zero => intro q r2 wj _ _ _ z; exact absurd z (Nat.not_lt_zero _)
    | succ N_4 ih_4 =>
      intro q r2 wj hqr hwj hv m_4 H locs hP hD hS ls hl
      refine lv_iload_n hx hb d_Mod_giveRegister_4 rfl (lv_at hl 3 rfl) ?_
      refine lv_aload_n hx hb d_Mod_giveRegister_5 rfl (lv_at hl 0 rfl) ?_
      refine va_get (D := (dC, dI)) (ci := 5) (v := .int (nI nr)) (C := R_Mod) (T := T_Mod) (N := 29) hx hb ht i_Mod hown hK hP 0 rfl rfl 8 (by decide) (ht _ mw_614) (fun _ h9 => h9) rfl d_Mod_giveRegister_6 ?_
      refine lv_icmp_ge (tgt := 90) hx hb d_Mod_giveRegister_9 (by decide) (fun c_9 => ?_) (fun c_9 => ?_)
      · skip
        have f_9 : nr ≤ r2 := (nI_leI (a := nr) (b := r2) (by first | omega | decide) (by first | omega | decide)).mp c_9
        obtain rfl : q = 0 := by omega
        have hw1 : inB (mh wj) 24 = true := hwj.elim (fun z => absurd z.1 (by omega)) (fun z => z.2)
        have hw2 : wj < 24 := by omega
        refine lv_aload_n hx hb d_Mod_giveRegister_90 rfl (lv_at hl 0 rfl) ?_
        refine va_get (D := (dC, dI)) (ci := 5) (v := .ref d6) (C := R_Mod) (T := T_Mod) (N := 29) hx hb ht i_Mod hown hK hP 0 rfl rfl 11 (by decide) (ht _ mw_617) (fun _ h9 => h9) rfl d_Mod_giveRegister_91 ?_
        refine lv_aload_n hx hb d_Mod_giveRegister_94 rfl (lv_at hl 0 rfl) ?_
        refine va_get (D := (dC, dI)) (ci := 5) (v := .ref db) (C := R_Mod) (T := T_Mod) (N := 29) hx hb ht i_Mod hown hK hP 0 rfl rfl 16 (by decide) (ht _ mw_622) (fun _ h9 => h9) rfl d_Mod_giveRegister_95 ?_
        refine lv_iload_n hx hb d_Mod_giveRegister_98 rfl (lv_at hl 2 rfl) ?_
        refine sm_iald (j := wj) hx hb hK hP 4 0 rfl rfl (vp_in_nI (by first | omega | assumption) (by first | decide | omega)) (nI_clamp (by first | omega | (have := sm_lt31; omega))) d_Mod_giveRegister_99 ?_
        refine sm_iald (j := (mh wj).toNatClampNeg) hx hb hK hP 2 0 rfl rfl (sm_inB hw1) rfl d_Mod_giveRegister_100 ?_
        refine lv_aload_n hx hb d_Mod_giveRegister_101 rfl (lv_at hl 0 rfl) ?_
        refine va_get (D := (dC, dI)) (ci := 5) (v := .ref d6) (C := R_Mod) (T := T_Mod) (N := 29) hx hb ht i_Mod hown hK hP 0 rfl rfl 11 (by decide) (ht _ mw_617) (fun _ h9 => h9) rfl d_Mod_giveRegister_102 ?_
        refine lv_iload_n hx hb d_Mod_giveRegister_105 rfl (lv_at hl 1 rfl) ?_
        refine sm_iald (j := x.toNatClampNeg) hx hb hK hP 2 0 rfl rfl (sm_inB hx1) rfl d_Mod_giveRegister_106 ?_
        refine lv_icmp_gt (tgt := 111) hx hb d_Mod_giveRegister_107 (by decide) (fun c_107 => ?_) (fun c_107 => ?_)
        · skip
          refine lv_aload_n hx hb d_Mod_giveRegister_111 rfl (lv_at hl 0 rfl) ?_
          refine va_get (D := (dC, dI)) (ci := 5) (v := .ref d9) (C := R_Mod) (T := T_Mod) (N := 29) hx hb ht i_Mod hown hK hP 0 rfl rfl 14 (by decide) (ht _ mw_620) (fun _ h9 => h9) rfl d_Mod_giveRegister_112 ?_
          refine lv_aload_n hx hb d_Mod_giveRegister_115 rfl (lv_at hl 0 rfl) ?_
          refine va_get (D := (dC, dI)) (ci := 5) (v := .ref db) (C := R_Mod) (T := T_Mod) (N := 29) hx hb ht i_Mod hown hK hP 0 rfl rfl 16 (by decide) (ht _ mw_622) (fun _ h9 => h9) rfl d_Mod_giveRegister_116 ?_
          refine lv_iload_n hx hb d_Mod_giveRegister_119 rfl (lv_at hl 2 rfl) ?_
          refine sm_iald (j := wj) hx hb hK hP 4 0 rfl rfl (vp_in_nI (by first | omega | assumption) (by first | decide | omega)) (nI_clamp (by first | omega | (have := sm_lt31; omega))) d_Mod_giveRegister_120 ?_
          refine lv_iconst (v := -1) hx hb d_Mod_giveRegister_121 (by decide) ?_
          refine sm_iast (j := (mh wj).toNatClampNeg) hx hb hK hP hD hS 3 0 rfl rfl (sm_inB hw1) rfl d_Mod_giveRegister_122 (fun H locs hP hD hS => ?_)
          have hP : va_P (dC, dI) smC [(md, .inr (5, [.int th, .int (nI n), .ref d1, .ref d2, .ref d3, .ref d4, .int (nI wt), .int isS, .int (nI nr), .int (nI ns), .ref d5, .ref d6, .ref d7, .ref d8, .ref d9, .ref da, .ref db, .int sta, .int nx, .int (nI sp), .int (nI cl2), .int (nI np), .ref dc, .ref dd, .ref de, .int (nI ww), .ref df, .ref dg, .ref dh])), (d5, .inl (cI, 24, .inl mf)), (d6, .inl (cI, 24, .inl ml)), (d9, .inl (cI, 24, .inl (upd mr ((mh wj).toNatClampNeg) ((-1 : Int32))))), (db, .inl (cI, 24, .inl mh))] H := hP
          have hD : va_D A [(md, .inr (5, [.int th, .int (nI n), .ref d1, .ref d2, .ref d3, .ref d4, .int (nI wt), .int isS, .int (nI nr), .int (nI ns), .ref d5, .ref d6, .ref d7, .ref d8, .ref d9, .ref da, .ref db, .int sta, .int nx, .int (nI sp), .int (nI cl2), .int (nI np), .ref dc, .ref dd, .ref de, .int (nI ww), .ref df, .ref dg, .ref dh])), (d5, .inl (cI, 24, .inl mf)), (d6, .inl (cI, 24, .inl ml)), (d9, .inl (cI, 24, .inl (upd mr ((mh wj).toNatClampNeg) ((-1 : Int32))))), (db, .inl (cI, 24, .inl mh))] := hD
          refine lv_aload_n hx hb d_Mod_giveRegister_123 rfl (lv_at hl 0 rfl) ?_
          refine va_get (D := (dC, dI)) (ci := 5) (v := .ref d9) (C := R_Mod) (T := T_Mod) (N := 29) hx hb ht i_Mod hown hK hP 0 rfl rfl 14 (by decide) (ht _ mw_620) (fun _ h9 => h9) rfl d_Mod_giveRegister_124 ?_
          refine lv_iload_n hx hb d_Mod_giveRegister_127 rfl (lv_at hl 1 rfl) ?_
          refine lv_iload_n hx hb d_Mod_giveRegister_128 rfl (lv_at hl 2 rfl) ?_
          refine sm_iast (j := x.toNatClampNeg) hx hb hK hP hD hS 3 0 rfl rfl (sm_inB hx1) rfl d_Mod_giveRegister_129 (fun H locs hP hD hS => ?_)
          have hP : va_P (dC, dI) smC [(md, .inr (5, [.int th, .int (nI n), .ref d1, .ref d2, .ref d3, .ref d4, .int (nI wt), .int isS, .int (nI nr), .int (nI ns), .ref d5, .ref d6, .ref d7, .ref d8, .ref d9, .ref da, .ref db, .int sta, .int nx, .int (nI sp), .int (nI cl2), .int (nI np), .ref dc, .ref dd, .ref de, .int (nI ww), .ref df, .ref dg, .ref dh])), (d5, .inl (cI, 24, .inl mf)), (d6, .inl (cI, 24, .inl ml)), (d9, .inl (cI, 24, .inl (upd (upd mr ((mh wj).toNatClampNeg) ((-1 : Int32))) x.toNatClampNeg (nI wj)))), (db, .inl (cI, 24, .inl mh))] H := hP
          have hD : va_D A [(md, .inr (5, [.int th, .int (nI n), .ref d1, .ref d2, .ref d3, .ref d4, .int (nI wt), .int isS, .int (nI nr), .int (nI ns), .ref d5, .ref d6, .ref d7, .ref d8, .ref d9, .ref da, .ref db, .int sta, .int nx, .int (nI sp), .int (nI cl2), .int (nI np), .ref dc, .ref dd, .ref de, .int (nI ww), .ref df, .ref dg, .ref dh])), (d5, .inl (cI, 24, .inl mf)), (d6, .inl (cI, 24, .inl ml)), (d9, .inl (cI, 24, .inl (upd (upd mr ((mh wj).toNatClampNeg) ((-1 : Int32))) x.toNatClampNeg (nI wj)))), (db, .inl (cI, 24, .inl mh))] := hD
          refine lv_aload_n hx hb d_Mod_giveRegister_130 rfl (lv_at hl 0 rfl) ?_
          refine va_get (D := (dC, dI)) (ci := 5) (v := .ref db) (C := R_Mod) (T := T_Mod) (N := 29) hx hb ht i_Mod hown hK hP 0 rfl rfl 16 (by decide) (ht _ mw_622) (fun _ h9 => h9) rfl d_Mod_giveRegister_131 ?_
          refine lv_iload_n hx hb d_Mod_giveRegister_134 rfl (lv_at hl 2 rfl) ?_
          refine lv_iload_n hx hb d_Mod_giveRegister_135 rfl (lv_at hl 1 rfl) ?_
          refine sm_iast (j := wj) hx hb hK hP hD hS 4 0 rfl rfl (vp_in_nI (by first | omega | assumption) (by first | decide | omega)) (nI_clamp (by first | omega | (have := sm_lt31; omega))) d_Mod_giveRegister_136 (fun H locs hP hD hS => ?_)
          have hP : va_P (dC, dI) smC [(md, .inr (5, [.int th, .int (nI n), .ref d1, .ref d2, .ref d3, .ref d4, .int (nI wt), .int isS, .int (nI nr), .int (nI ns), .ref d5, .ref d6, .ref d7, .ref d8, .ref d9, .ref da, .ref db, .int sta, .int nx, .int (nI sp), .int (nI cl2), .int (nI np), .ref dc, .ref dd, .ref de, .int (nI ww), .ref df, .ref dg, .ref dh])), (d5, .inl (cI, 24, .inl mf)), (d6, .inl (cI, 24, .inl ml)), (d9, .inl (cI, 24, .inl (upd (upd mr ((mh wj).toNatClampNeg) ((-1 : Int32))) x.toNatClampNeg (nI wj)))), (db, .inl (cI, 24, .inl (upd mh wj x)))] H := hP
          have hD : va_D A [(md, .inr (5, [.int th, .int (nI n), .ref d1, .ref d2, .ref d3, .ref d4, .int (nI wt), .int isS, .int (nI nr), .int (nI ns), .ref d5, .ref d6, .ref d7, .ref d8, .ref d9, .ref da, .ref db, .int sta, .int nx, .int (nI sp), .int (nI cl2), .int (nI np), .ref dc, .ref dd, .ref de, .int (nI ww), .ref df, .ref dg, .ref dh])), (d5, .inl (cI, 24, .inl mf)), (d6, .inl (cI, 24, .inl ml)), (d9, .inl (cI, 24, .inl (upd (upd mr ((mh wj).toNatClampNeg) ((-1 : Int32))) x.toNatClampNeg (nI wj)))), (db, .inl (cI, 24, .inl (upd mh wj x)))] := hD
          refine sm_rv (ws := [(md, .inr (5, [.int th, .int (nI n), .ref d1, .ref d2, .ref d3, .ref d4, .int (nI wt), .int isS, .int (nI nr), .int (nI ns), .ref d5, .ref d6, .ref d7, .ref d8, .ref d9, .ref da, .ref db, .int sta, .int nx, .int (nI sp), .int (nI cl2), .int (nI np), .ref dc, .ref dd, .ref de, .int (nI ww), .ref df, .ref dg, .ref dh])), (d5, .inl (cI, 24, .inl mf)), (d6, .inl (cI, 24, .inl ml)), (d9, .inl (cI, 24, .inl (upd (upd mr ((mh wj).toNatClampNeg) ((-1 : Int32))) x.toNatClampNeg (nI wj)))), (db, .inl (cI, 24, .inl (upd mh wj x)))]) hx hb hr hlocks hK (hP.sub [0, 1, 2, 3, 4] rfl) (hD.sub [0, 1, 2, 3, 4] (by decide) rfl) hS ?_ d_Mod_giveRegister_137
          have e9 : mgL mf ml mh x nr 0 0 = (false, wj) := hv.symm
          show _ = _
          simp only [gmR, e9, Bool.false_eq_true, if_false, if_pos c_107]
        · skip
          refine sm_rv (ws := [(md, .inr (5, [.int th, .int (nI n), .ref d1, .ref d2, .ref d3, .ref d4, .int (nI wt), .int isS, .int (nI nr), .int (nI ns), .ref d5, .ref d6, .ref d7, .ref d8, .ref d9, .ref da, .ref db, .int sta, .int nx, .int (nI sp), .int (nI cl2), .int (nI np), .ref dc, .ref dd, .ref de, .int (nI ww), .ref df, .ref dg, .ref dh])), (d5, .inl (cI, 24, .inl mf)), (d6, .inl (cI, 24, .inl ml)), (d9, .inl (cI, 24, .inl mr)), (db, .inl (cI, 24, .inl mh))]) hx hb hr hlocks hK (hP.sub [0, 1, 2, 3, 4] rfl) (hD.sub [0, 1, 2, 3, 4] (by decide) rfl) hS ?_ d_Mod_giveRegister_110
          have e9 : mgL mf ml mh x nr 0 0 = (false, wj) := hv.symm
          show _ = _
          simp only [gmR, e9, Bool.false_eq_true, if_false, if_neg c_107]
      · skip
        have f_9 : ¬ nr ≤ r2 := fun z => c_9 ((nI_leI (a := nr) (b := r2) (by first | omega | decide) (by first | omega | decide)).mpr z)
        obtain ⟨q1, rfl⟩ : ∃ z, q = z + 1 := ⟨q - 1, by omega⟩
        refine lv_aload_n hx hb d_Mod_giveRegister_12 rfl (lv_at hl 0 rfl) ?_
        refine va_get (D := (dC, dI)) (ci := 5) (v := .ref db) (C := R_Mod) (T := T_Mod) (N := 29) hx hb ht i_Mod hown hK hP 0 rfl rfl 16 (by decide) (ht _ mw_622) (fun _ h9 => h9) rfl d_Mod_giveRegister_13 ?_
        refine lv_iload_n hx hb d_Mod_giveRegister_16 rfl (lv_at hl 3 rfl) ?_
        refine sm_iald (j := r2) hx hb hK hP 4 0 rfl rfl (vp_in_nI (by first | omega | assumption) (by first | decide | omega)) (nI_clamp (by first | omega | (have := sm_lt31; omega))) d_Mod_giveRegister_17 ?_
        refine lv_iconst (v := -1) hx hb d_Mod_giveRegister_18 (by decide) ?_
        refine lv_icmp_eq (tgt := 42) hx hb d_Mod_giveRegister_19 (by decide) (fun c_19 => ?_) (fun c_19 => ?_)
        · skip
          refine lv_aload_n hx hb d_Mod_giveRegister_42 rfl (lv_at hl 0 rfl) ?_
          refine va_get (D := (dC, dI)) (ci := 5) (v := .ref d9) (C := R_Mod) (T := T_Mod) (N := 29) hx hb ht i_Mod hown hK hP 0 rfl rfl 14 (by decide) (ht _ mw_620) (fun _ h9 => h9) rfl d_Mod_giveRegister_43 ?_
          refine lv_iload_n hx hb d_Mod_giveRegister_46 rfl (lv_at hl 1 rfl) ?_
          refine lv_iload_n hx hb d_Mod_giveRegister_47 rfl (lv_at hl 3 rfl) ?_
          refine sm_iast (j := x.toNatClampNeg) hx hb hK hP hD hS 3 0 rfl rfl (sm_inB hx1) rfl d_Mod_giveRegister_48 (fun H locs hP hD hS => ?_)
          have hP : va_P (dC, dI) smC [(md, .inr (5, [.int th, .int (nI n), .ref d1, .ref d2, .ref d3, .ref d4, .int (nI wt), .int isS, .int (nI nr), .int (nI ns), .ref d5, .ref d6, .ref d7, .ref d8, .ref d9, .ref da, .ref db, .int sta, .int nx, .int (nI sp), .int (nI cl2), .int (nI np), .ref dc, .ref dd, .ref de, .int (nI ww), .ref df, .ref dg, .ref dh])), (d5, .inl (cI, 24, .inl mf)), (d6, .inl (cI, 24, .inl ml)), (d9, .inl (cI, 24, .inl (upd mr x.toNatClampNeg (nI r2)))), (db, .inl (cI, 24, .inl mh))] H := hP
          have hD : va_D A [(md, .inr (5, [.int th, .int (nI n), .ref d1, .ref d2, .ref d3, .ref d4, .int (nI wt), .int isS, .int (nI nr), .int (nI ns), .ref d5, .ref d6, .ref d7, .ref d8, .ref d9, .ref da, .ref db, .int sta, .int nx, .int (nI sp), .int (nI cl2), .int (nI np), .ref dc, .ref dd, .ref de, .int (nI ww), .ref df, .ref dg, .ref dh])), (d5, .inl (cI, 24, .inl mf)), (d6, .inl (cI, 24, .inl ml)), (d9, .inl (cI, 24, .inl (upd mr x.toNatClampNeg (nI r2)))), (db, .inl (cI, 24, .inl mh))] := hD
          refine lv_aload_n hx hb d_Mod_giveRegister_49 rfl (lv_at hl 0 rfl) ?_
          refine va_get (D := (dC, dI)) (ci := 5) (v := .ref db) (C := R_Mod) (T := T_Mod) (N := 29) hx hb ht i_Mod hown hK hP 0 rfl rfl 16 (by decide) (ht _ mw_622) (fun _ h9 => h9) rfl d_Mod_giveRegister_50 ?_
          refine lv_iload_n hx hb d_Mod_giveRegister_53 rfl (lv_at hl 3 rfl) ?_
          refine lv_iload_n hx hb d_Mod_giveRegister_54 rfl (lv_at hl 1 rfl) ?_
          refine sm_iast (j := r2) hx hb hK hP hD hS 4 0 rfl rfl (vp_in_nI (by first | omega | assumption) (by first | decide | omega)) (nI_clamp (by first | omega | (have := sm_lt31; omega))) d_Mod_giveRegister_55 (fun H locs hP hD hS => ?_)
          have hP : va_P (dC, dI) smC [(md, .inr (5, [.int th, .int (nI n), .ref d1, .ref d2, .ref d3, .ref d4, .int (nI wt), .int isS, .int (nI nr), .int (nI ns), .ref d5, .ref d6, .ref d7, .ref d8, .ref d9, .ref da, .ref db, .int sta, .int nx, .int (nI sp), .int (nI cl2), .int (nI np), .ref dc, .ref dd, .ref de, .int (nI ww), .ref df, .ref dg, .ref dh])), (d5, .inl (cI, 24, .inl mf)), (d6, .inl (cI, 24, .inl ml)), (d9, .inl (cI, 24, .inl (upd mr x.toNatClampNeg (nI r2)))), (db, .inl (cI, 24, .inl (upd mh r2 x)))] H := hP
          have hD : va_D A [(md, .inr (5, [.int th, .int (nI n), .ref d1, .ref d2, .ref d3, .ref d4, .int (nI wt), .int isS, .int (nI nr), .int (nI ns), .ref d5, .ref d6, .ref d7, .ref d8, .ref d9, .ref da, .ref db, .int sta, .int nx, .int (nI sp), .int (nI cl2), .int (nI np), .ref dc, .ref dd, .ref de, .int (nI ww), .ref df, .ref dg, .ref dh])), (d5, .inl (cI, 24, .inl mf)), (d6, .inl (cI, 24, .inl ml)), (d9, .inl (cI, 24, .inl (upd mr x.toNatClampNeg (nI r2)))), (db, .inl (cI, 24, .inl (upd mh r2 x)))] := hD
          refine sm_rv (ws := [(md, .inr (5, [.int th, .int (nI n), .ref d1, .ref d2, .ref d3, .ref d4, .int (nI wt), .int isS, .int (nI nr), .int (nI ns), .ref d5, .ref d6, .ref d7, .ref d8, .ref d9, .ref da, .ref db, .int sta, .int nx, .int (nI sp), .int (nI cl2), .int (nI np), .ref dc, .ref dd, .ref de, .int (nI ww), .ref df, .ref dg, .ref dh])), (d5, .inl (cI, 24, .inl mf)), (d6, .inl (cI, 24, .inl ml)), (d9, .inl (cI, 24, .inl (upd mr x.toNatClampNeg (nI r2)))), (db, .inl (cI, 24, .inl (upd mh r2 x)))]) hx hb hr hlocks hK (hP.sub [0, 1, 2, 3, 4] rfl) (hD.sub [0, 1, 2, 3, 4] (by decide) rfl) hS ?_ d_Mod_giveRegister_56
          have e9 : mgL mf ml mh x nr 0 0 = (true, r2) := by rw [← hv, mgL, if_pos c_19]
          show _ = _
          simp only [gmR, e9, if_true]
        · skip
          have hr1 : inB (mh r2) 24 = true := (hho r2 (by omega)).resolve_left c_19
          have hw1 : inB (mh wj) 24 = true := hwj.elim (fun z => by rw [z.2, ← z.1]; exact hr1) (fun z => z.2)
          refine lv_aload_n hx hb d_Mod_giveRegister_22 rfl (lv_at hl 0 rfl) ?_
          refine va_get (D := (dC, dI)) (ci := 5) (v := .ref d6) (C := R_Mod) (T := T_Mod) (N := 29) hx hb ht i_Mod hown hK hP 0 rfl rfl 11 (by decide) (ht _ mw_617) (fun _ h9 => h9) rfl d_Mod_giveRegister_23 ?_
          refine lv_aload_n hx hb d_Mod_giveRegister_26 rfl (lv_at hl 0 rfl) ?_
          refine va_get (D := (dC, dI)) (ci := 5) (v := .ref db) (C := R_Mod) (T := T_Mod) (N := 29) hx hb ht i_Mod hown hK hP 0 rfl rfl 16 (by decide) (ht _ mw_622) (fun _ h9 => h9) rfl d_Mod_giveRegister_27 ?_
          refine lv_iload_n hx hb d_Mod_giveRegister_30 rfl (lv_at hl 3 rfl) ?_
          refine sm_iald (j := r2) hx hb hK hP 4 0 rfl rfl (vp_in_nI (by first | omega | assumption) (by first | decide | omega)) (nI_clamp (by first | omega | (have := sm_lt31; omega))) d_Mod_giveRegister_31 ?_
          refine sm_iald (j := (mh r2).toNatClampNeg) hx hb hK hP 2 0 rfl rfl (sm_inB hr1) rfl d_Mod_giveRegister_32 ?_
          refine lv_aload_n hx hb d_Mod_giveRegister_33 rfl (lv_at hl 0 rfl) ?_
          refine va_get (D := (dC, dI)) (ci := 5) (v := .ref d5) (C := R_Mod) (T := T_Mod) (N := 29) hx hb ht i_Mod hown hK hP 0 rfl rfl 10 (by decide) (ht _ mw_616) (fun _ h9 => h9) rfl d_Mod_giveRegister_34 ?_
          refine lv_iload_n hx hb d_Mod_giveRegister_37 rfl (lv_at hl 1 rfl) ?_
          refine sm_iald (j := x.toNatClampNeg) hx hb hK hP 1 0 rfl rfl (sm_inB hx1) rfl d_Mod_giveRegister_38 ?_
          refine lv_icmp_ge (tgt := 57) hx hb d_Mod_giveRegister_39 (by decide) (fun c_39 => ?_) (fun c_39 => ?_)
          · skip
            refine lv_aload_n hx hb d_Mod_giveRegister_57 rfl (lv_at hl 0 rfl) ?_
            refine va_get (D := (dC, dI)) (ci := 5) (v := .ref d6) (C := R_Mod) (T := T_Mod) (N := 29) hx hb ht i_Mod hown hK hP 0 rfl rfl 11 (by decide) (ht _ mw_617) (fun _ h9 => h9) rfl d_Mod_giveRegister_58 ?_
            refine lv_aload_n hx hb d_Mod_giveRegister_61 rfl (lv_at hl 0 rfl) ?_
            refine va_get (D := (dC, dI)) (ci := 5) (v := .ref db) (C := R_Mod) (T := T_Mod) (N := 29) hx hb ht i_Mod hown hK hP 0 rfl rfl 16 (by decide) (ht _ mw_622) (fun _ h9 => h9) rfl d_Mod_giveRegister_62 ?_
            refine lv_iload_n hx hb d_Mod_giveRegister_65 rfl (lv_at hl 3 rfl) ?_
            refine sm_iald (j := r2) hx hb hK hP 4 0 rfl rfl (vp_in_nI (by first | omega | assumption) (by first | decide | omega)) (nI_clamp (by first | omega | (have := sm_lt31; omega))) d_Mod_giveRegister_66 ?_
            refine sm_iald (j := (mh r2).toNatClampNeg) hx hb hK hP 2 0 rfl rfl (sm_inB hr1) rfl d_Mod_giveRegister_67 ?_
            refine lv_aload_n hx hb d_Mod_giveRegister_68 rfl (lv_at hl 0 rfl) ?_
            refine va_get (D := (dC, dI)) (ci := 5) (v := .ref d6) (C := R_Mod) (T := T_Mod) (N := 29) hx hb ht i_Mod hown hK hP 0 rfl rfl 11 (by decide) (ht _ mw_617) (fun _ h9 => h9) rfl d_Mod_giveRegister_69 ?_
            refine lv_aload_n hx hb d_Mod_giveRegister_72 rfl (lv_at hl 0 rfl) ?_
            refine va_get (D := (dC, dI)) (ci := 5) (v := .ref db) (C := R_Mod) (T := T_Mod) (N := 29) hx hb ht i_Mod hown hK hP 0 rfl rfl 16 (by decide) (ht _ mw_622) (fun _ h9 => h9) rfl d_Mod_giveRegister_73 ?_
            refine lv_iload_n hx hb d_Mod_giveRegister_76 rfl (lv_at hl 2 rfl) ?_
            refine sm_iald (j := wj) hx hb hK hP 4 0 rfl rfl (vp_in_nI (by first | omega | assumption) (by first | decide | omega)) (nI_clamp (by first | omega | (have := sm_lt31; omega))) d_Mod_giveRegister_77 ?_
            refine sm_iald (j := (mh wj).toNatClampNeg) hx hb hK hP 2 0 rfl rfl (sm_inB hw1) rfl d_Mod_giveRegister_78 ?_
            refine lv_icmp_lt (tgt := 84) hx hb d_Mod_giveRegister_79 (by decide) (fun c_79 => ?_) (fun c_79 => ?_)
            · skip
              refine lv_iinc (v := nI (r2 + 1)) (lv' := [(3, .int (nI (r2 + 1))), (0, .ref md), (1, .int x), (2, .int (nI wj))]) hx hb d_Mod_giveRegister_84 hl (k := 3) rfl (nI_add r2 1) (by decide) rfl (fun ls hl => ?_)
              refine lv_goto (tgt := 4) hx hb d_Mod_giveRegister_87 (by decide) ?_
              exact ih_4 q1 (r2 + 1) wj (by omega) (Or.inr ⟨by omega, (hwj.elim (fun z => by rw [z.2, ← z.1]; exact hr1) (fun z => z.2))⟩) (by rw [← hv, mgL, if_neg c_19, if_pos c_39, if_pos c_79]) (by omega) _ _ (hP.sub [0, 1, 2, 3, 4] rfl) (hD.sub [0, 1, 2, 3, 4] (by decide) rfl) hS _ (lv_sub hl [1, 2, 3, 0] rfl)
            · skip
              refine lv_iload_n hx hb d_Mod_giveRegister_82 rfl (lv_at hl 3 rfl) ?_
              refine lv_istore_n (lv' := [(2, .int (nI r2)), (0, .ref md), (1, .int x), (3, .int (nI r2))]) hx hb d_Mod_giveRegister_83 rfl hl (by decide) rfl (fun ls hl => ?_)
              refine lv_iinc (v := nI (r2 + 1)) (lv' := [(3, .int (nI (r2 + 1))), (2, .int (nI r2)), (0, .ref md), (1, .int x)]) hx hb d_Mod_giveRegister_84 hl (k := 3) rfl (nI_add r2 1) (by decide) rfl (fun ls hl => ?_)
              refine lv_goto (tgt := 4) hx hb d_Mod_giveRegister_87 (by decide) ?_
              exact ih_4 q1 (r2 + 1) r2 (by omega) (Or.inr ⟨by omega, hr1⟩) (by rw [← hv, mgL, if_neg c_19, if_pos c_39, if_neg c_79]) (by omega) _ _ (hP.sub [0, 1, 2, 3, 4] rfl) (hD.sub [0, 1, 2, 3, 4] (by decide) rfl) hS _ (lv_sub hl [2, 3, 1, 0] rfl)
          · skip
            refine lv_aload_n hx hb d_Mod_giveRegister_42 rfl (lv_at hl 0 rfl) ?_
            refine va_get (D := (dC, dI)) (ci := 5) (v := .ref d9) (C := R_Mod) (T := T_Mod) (N := 29) hx hb ht i_Mod hown hK hP 0 rfl rfl 14 (by decide) (ht _ mw_620) (fun _ h9 => h9) rfl d_Mod_giveRegister_43 ?_
            refine lv_iload_n hx hb d_Mod_giveRegister_46 rfl (lv_at hl 1 rfl) ?_
            refine lv_iload_n hx hb d_Mod_giveRegister_47 rfl (lv_at hl 3 rfl) ?_
            refine sm_iast (j := x.toNatClampNeg) hx hb hK hP hD hS 3 0 rfl rfl (sm_inB hx1) rfl d_Mod_giveRegister_48 (fun H locs hP hD hS => ?_)
            have hP : va_P (dC, dI) smC [(md, .inr (5, [.int th, .int (nI n), .ref d1, .ref d2, .ref d3, .ref d4, .int (nI wt), .int isS, .int (nI nr), .int (nI ns), .ref d5, .ref d6, .ref d7, .ref d8, .ref d9, .ref da, .ref db, .int sta, .int nx, .int (nI sp), .int (nI cl2), .int (nI np), .ref dc, .ref dd, .ref de, .int (nI ww), .ref df, .ref dg, .ref dh])), (d5, .inl (cI, 24, .inl mf)), (d6, .inl (cI, 24, .inl ml)), (d9, .inl (cI, 24, .inl (upd mr x.toNatClampNeg (nI r2)))), (db, .inl (cI, 24, .inl mh))] H := hP
            have hD : va_D A [(md, .inr (5, [.int th, .int (nI n), .ref d1, .ref d2, .ref d3, .ref d4, .int (nI wt), .int isS, .int (nI nr), .int (nI ns), .ref d5, .ref d6, .ref d7, .ref d8, .ref d9, .ref da, .ref db, .int sta, .int nx, .int (nI sp), .int (nI cl2), .int (nI np), .ref dc, .ref dd, .ref de, .int (nI ww), .ref df, .ref dg, .ref dh])), (d5, .inl (cI, 24, .inl mf)), (d6, .inl (cI, 24, .inl ml)), (d9, .inl (cI, 24, .inl (upd mr x.toNatClampNeg (nI r2)))), (db, .inl (cI, 24, .inl mh))] := hD
            refine lv_aload_n hx hb d_Mod_giveRegister_49 rfl (lv_at hl 0 rfl) ?_
            refine va_get (D := (dC, dI)) (ci := 5) (v := .ref db) (C := R_Mod) (T := T_Mod) (N := 29) hx hb ht i_Mod hown hK hP 0 rfl rfl 16 (by decide) (ht _ mw_622) (fun _ h9 => h9) rfl d_Mod_giveRegister_50 ?_
            refine lv_iload_n hx hb d_Mod_giveRegister_53 rfl (lv_at hl 3 rfl) ?_
            refine lv_iload_n hx hb d_Mod_giveRegister_54 rfl (lv_at hl 1 rfl) ?_
            refine sm_iast (j := r2) hx hb hK hP hD hS 4 0 rfl rfl (vp_in_nI (by first | omega | assumption) (by first | decide | omega)) (nI_clamp (by first | omega | (have := sm_lt31; omega))) d_Mod_giveRegister_55 (fun H locs hP hD hS => ?_)
            have hP : va_P (dC, dI) smC [(md, .inr (5, [.int th, .int (nI n), .ref d1, .ref d2, .ref d3, .ref d4, .int (nI wt), .int isS, .int (nI nr), .int (nI ns), .ref d5, .ref d6, .ref d7, .ref d8, .ref d9, .ref da, .ref db, .int sta, .int nx, .int (nI sp), .int (nI cl2), .int (nI np), .ref dc, .ref dd, .ref de, .int (nI ww), .ref df, .ref dg, .ref dh])), (d5, .inl (cI, 24, .inl mf)), (d6, .inl (cI, 24, .inl ml)), (d9, .inl (cI, 24, .inl (upd mr x.toNatClampNeg (nI r2)))), (db, .inl (cI, 24, .inl (upd mh r2 x)))] H := hP
            have hD : va_D A [(md, .inr (5, [.int th, .int (nI n), .ref d1, .ref d2, .ref d3, .ref d4, .int (nI wt), .int isS, .int (nI nr), .int (nI ns), .ref d5, .ref d6, .ref d7, .ref d8, .ref d9, .ref da, .ref db, .int sta, .int nx, .int (nI sp), .int (nI cl2), .int (nI np), .ref dc, .ref dd, .ref de, .int (nI ww), .ref df, .ref dg, .ref dh])), (d5, .inl (cI, 24, .inl mf)), (d6, .inl (cI, 24, .inl ml)), (d9, .inl (cI, 24, .inl (upd mr x.toNatClampNeg (nI r2)))), (db, .inl (cI, 24, .inl (upd mh r2 x)))] := hD
            refine sm_rv (ws := [(md, .inr (5, [.int th, .int (nI n), .ref d1, .ref d2, .ref d3, .ref d4, .int (nI wt), .int isS, .int (nI nr), .int (nI ns), .ref d5, .ref d6, .ref d7, .ref d8, .ref d9, .ref da, .ref db, .int sta, .int nx, .int (nI sp), .int (nI cl2), .int (nI np), .ref dc, .ref dd, .ref de, .int (nI ww), .ref df, .ref dg, .ref dh])), (d5, .inl (cI, 24, .inl mf)), (d6, .inl (cI, 24, .inl ml)), (d9, .inl (cI, 24, .inl (upd mr x.toNatClampNeg (nI r2)))), (db, .inl (cI, 24, .inl (upd mh r2 x)))]) hx hb hr hlocks hK (hP.sub [0, 1, 2, 3, 4] rfl) (hD.sub [0, 1, 2, 3, 4] (by decide) rfl) hS ?_ d_Mod_giveRegister_56
            have e9 : mgL mf ml mh x nr 0 0 = (true, r2) := by rw [← hv, mgL, if_neg c_19, if_neg c_39]
            show _ = _
            simp only [gmR, e9, if_true]
  exact loop_4 (nr + 1) nr 0 0 (by omega) (Or.inl ⟨rfl, rfl⟩) rfl (by omega) _ _ (hP.sub [0, 1, 2, 3, 4] rfl) (hD.sub [0, 1, 2, 3, 4] (by decide) rfl) hS _ (lv_sub hl [2, 3, 1, 0] rfl)
abbrev y_Mod_giveSlot : MethodName := ⟨"ScanMillModel", "giveSlot", "(I)V"⟩
theorem d_Mod_giveSlot_0 : decode prog_7_method_18_code 0 = .ok (.iconst 0, 1) := by decide +kernel
theorem d_Mod_giveSlot_1 : decode prog_7_method_18_code 1 = .ok (.istore_n 2, 1) := by decide +kernel
theorem d_Mod_giveSlot_2 : decode prog_7_method_18_code 2 = .ok (.iload_n 2, 1) := by decide +kernel
theorem d_Mod_giveSlot_3 : decode prog_7_method_18_code 3 = .ok (.aload_n 0, 1) := by decide +kernel
theorem d_Mod_giveSlot_4 : decode prog_7_method_18_code 4 = .ok (.getfield 114, 3) := by decide +kernel
theorem mw_615 : Cond.fieldLink "ScanMillModel" 114 "ScanMillModel" "slots" "I" ∈ wG := wG_t 615 (by decide +kernel) (by decide +kernel)
theorem d_Mod_giveSlot_7 : decode prog_7_method_18_code 7 = .ok (.if_icmp .ge 29, 3) := by decide +kernel
theorem d_Mod_giveSlot_36 : decode prog_7_method_18_code 36 = .ok (.aload_n 0, 1) := by decide +kernel
theorem d_Mod_giveSlot_37 : decode prog_7_method_18_code 37 = .ok (.getfield 42, 3) := by decide +kernel
theorem mw_621 : Cond.fieldLink "ScanMillModel" 42 "ScanMillModel" "slot" "[I" ∈ wG := wG_t 621 (by decide +kernel) (by decide +kernel)
theorem d_Mod_giveSlot_40 : decode prog_7_method_18_code 40 = .ok (.iload_n 1, 1) := by decide +kernel
theorem d_Mod_giveSlot_41 : decode prog_7_method_18_code 41 = .ok (.iload_n 2, 1) := by decide +kernel
theorem d_Mod_giveSlot_42 : decode prog_7_method_18_code 42 = .ok (.iastore, 1) := by decide +kernel
theorem d_Mod_giveSlot_43 : decode prog_7_method_18_code 43 = .ok (.aload_n 0, 1) := by decide +kernel
theorem d_Mod_giveSlot_44 : decode prog_7_method_18_code 44 = .ok (.getfield 45, 3) := by decide +kernel
theorem d_Mod_giveSlot_47 : decode prog_7_method_18_code 47 = .ok (.iload_n 2, 1) := by decide +kernel
theorem d_Mod_giveSlot_48 : decode prog_7_method_18_code 48 = .ok (.iload_n 1, 1) := by decide +kernel
theorem d_Mod_giveSlot_49 : decode prog_7_method_18_code 49 = .ok (.iastore, 1) := by decide +kernel
theorem d_Mod_giveSlot_50 : decode prog_7_method_18_code 50 = .ok (.aload_n 0, 1) := by decide +kernel
theorem d_Mod_giveSlot_51 : decode prog_7_method_18_code 51 = .ok (.iload_n 2, 1) := by decide +kernel
theorem d_Mod_giveSlot_52 : decode prog_7_method_18_code 52 = .ok (.aload_n 0, 1) := by decide +kernel
theorem d_Mod_giveSlot_53 : decode prog_7_method_18_code 53 = .ok (.getfield 114, 3) := by decide +kernel
theorem d_Mod_giveSlot_56 : decode prog_7_method_18_code 56 = .ok (.if_icmp .ne 12, 3) := by decide +kernel
theorem d_Mod_giveSlot_68 : decode prog_7_method_18_code 68 = .ok (.aload_n 0, 1) := by decide +kernel
theorem d_Mod_giveSlot_69 : decode prog_7_method_18_code 69 = .ok (.getfield 114, 3) := by decide +kernel
theorem d_Mod_giveSlot_72 : decode prog_7_method_18_code 72 = .ok (.putfield 114, 3) := by decide +kernel
theorem d_Mod_giveSlot_75 : decode prog_7_method_18_code 75 = .ok (.return_, 1) := by decide +kernel
theorem d_Mod_giveSlot_59 : decode prog_7_method_18_code 59 = .ok (.aload_n 0, 1) := by decide +kernel
theorem d_Mod_giveSlot_60 : decode prog_7_method_18_code 60 = .ok (.getfield 114, 3) := by decide +kernel
theorem d_Mod_giveSlot_63 : decode prog_7_method_18_code 63 = .ok (.iconst 1, 1) := by decide +kernel
theorem d_Mod_giveSlot_64 : decode prog_7_method_18_code 64 = .ok (.iadd, 1) := by decide +kernel
theorem d_Mod_giveSlot_65 : decode prog_7_method_18_code 65 = .ok (.goto 7, 3) := by decide +kernel
theorem d_Mod_giveSlot_10 : decode prog_7_method_18_code 10 = .ok (.aload_n 0, 1) := by decide +kernel
theorem d_Mod_giveSlot_11 : decode prog_7_method_18_code 11 = .ok (.getfield 29, 3) := by decide +kernel
theorem d_Mod_giveSlot_14 : decode prog_7_method_18_code 14 = .ok (.aload_n 0, 1) := by decide +kernel
theorem d_Mod_giveSlot_15 : decode prog_7_method_18_code 15 = .ok (.getfield 45, 3) := by decide +kernel
theorem d_Mod_giveSlot_18 : decode prog_7_method_18_code 18 = .ok (.iload_n 2, 1) := by decide +kernel
theorem d_Mod_giveSlot_19 : decode prog_7_method_18_code 19 = .ok (.iaload, 1) := by decide +kernel
theorem d_Mod_giveSlot_20 : decode prog_7_method_18_code 20 = .ok (.iaload, 1) := by decide +kernel
theorem d_Mod_giveSlot_21 : decode prog_7_method_18_code 21 = .ok (.aload_n 0, 1) := by decide +kernel
theorem d_Mod_giveSlot_22 : decode prog_7_method_18_code 22 = .ok (.getfield 26, 3) := by decide +kernel
theorem d_Mod_giveSlot_25 : decode prog_7_method_18_code 25 = .ok (.iload_n 1, 1) := by decide +kernel
theorem d_Mod_giveSlot_26 : decode prog_7_method_18_code 26 = .ok (.iaload, 1) := by decide +kernel
theorem d_Mod_giveSlot_27 : decode prog_7_method_18_code 27 = .ok (.if_icmp .lt 9, 3) := by decide +kernel
theorem d_Mod_giveSlot_30 : decode prog_7_method_18_code 30 = .ok (.iinc 2 1, 3) := by decide +kernel
theorem d_Mod_giveSlot_33 : decode prog_7_method_18_code 33 = .ok (.goto (-31), 3) := by decide +kernel
set_option maxRecDepth 100000 in
set_option maxHeartbeats 4000000 in
theorem c_Mod_giveSlot {l : Launch} {dC : Nat → ClassId} {dI : Nat → Nat → Nat} {cI cZ : ClassId} {md d1 d2 d3 d4 d5 d6 d7 d8 d9 da db dc dd de df dg dh n wt nr ns sp cl2 np ww : Nat} {th isS sta nx : Int32} {mf ml ms mh : Nat → Int32} {x : Int32} (hx1 : inB x 24 = true) (hns : ns < 24) (hho : ∀ r, r < ns → inB (mh r) 24 = true) : sm_V l y_Mod_giveSlot prog_7_method_18_code 3 none (rmF 0 0) (dC, dI) smC [(cI, .int), (cZ, .boolean)] [.ref md, .int x] [(md, .inr (5, [.int th, .int (nI n), .ref d1, .ref d2, .ref d3, .ref d4, .int (nI wt), .int isS, .int (nI nr), .int (nI ns), .ref d5, .ref d6, .ref d7, .ref d8, .ref d9, .ref da, .ref db, .int sta, .int nx, .int (nI sp), .int (nI cl2), .int (nI np), .ref dc, .ref dd, .ref de, .int (nI ww), .ref df, .ref dg, .ref dh])), (d5, .inl (cI, 24, .inl mf)), (d6, .inl (cI, 24, .inl ml)), (da, .inl (cI, 24, .inl ms)), (db, .inl (cI, 24, .inl mh))] (fun w2 => w2 = [(md, .inr (5, [.int th, .int (nI n), .ref d1, .ref d2, .ref d3, .ref d4, .int (nI wt), .int isS, .int (nI nr), .int (nI (if msL mf ml mh x ns 0 = ns then ns + 1 else ns)), .ref d5, .ref d6, .ref d7, .ref d8, .ref d9, .ref da, .ref db, .int sta, .int nx, .int (nI sp), .int (nI cl2), .int (nI np), .ref dc, .ref dd, .ref de, .int (nI ww), .ref df, .ref dg, .ref dh])), (d5, .inl (cI, 24, .inl mf)), (d6, .inl (cI, 24, .inl ml)), (da, .inl (cI, 24, .inl (upd ms x.toNatClampNeg (nI (msL mf ml mh x ns 0))))), (db, .inl (cI, 24, .inl (upd mh (msL mf ml mh x ns 0) x)))]) := by
  refine sm_V.mk (by decide) (Nat.le_of_ble_eq_true rfl) ?_
  intro p e s m below meth c A H locs ls hx hb hr ht hown hlocks hml hnm hP hK hD hA hS hN hl
  have hl : lv_has ls 3 [(0, .ref md), (1, .int x)] := hl
  refine lv_iconst (v := 0) hx hb d_Mod_giveSlot_0 (by decide) ?_
  refine lv_istore_n (lv' := [(2, .int ((0 : Int32))), (0, .ref md), (1, .int x)]) hx hb d_Mod_giveSlot_1 rfl hl (by decide) rfl (fun ls hl => ?_)
  have loop_2 : ∀ (N_2 : Nat) (q : Nat) (s2 : Nat), (q + s2 = ns) → (msL mf ml mh x q s2 = msL mf ml mh x ns 0) → q < N_2 → ∀ (H : Heap) (locs : List Loc), va_P (dC, dI) smC [(md, .inr (5, [.int th, .int (nI n), .ref d1, .ref d2, .ref d3, .ref d4, .int (nI wt), .int isS, .int (nI nr), .int (nI ns), .ref d5, .ref d6, .ref d7, .ref d8, .ref d9, .ref da, .ref db, .int sta, .int nx, .int (nI sp), .int (nI cl2), .int (nI np), .ref dc, .ref dd, .ref de, .int (nI ww), .ref df, .ref dg, .ref dh])), (d5, .inl (cI, 24, .inl mf)), (d6, .inl (cI, 24, .inl ml)), (da, .inl (cI, 24, .inl ms)), (db, .inl (cI, 24, .inl mh))] H → va_D A [(md, .inr (5, [.int th, .int (nI n), .ref d1, .ref d2, .ref d3, .ref d4, .int (nI wt), .int isS, .int (nI nr), .int (nI ns), .ref d5, .ref d6, .ref d7, .ref d8, .ref d9, .ref da, .ref db, .int sta, .int nx, .int (nI sp), .int (nI cl2), .int (nI np), .ref dc, .ref dd, .ref de, .int (nI ww), .ref df, .ref dg, .ref dh])), (d5, .inl (cI, 24, .inl mf)), (d6, .inl (cI, 24, .inl ml)), (da, .inl (cI, 24, .inl ms)), (db, .inl (cI, 24, .inl mh))] → va_S A s.heap H locs → ∀ ls : Array Slot, lv_has ls 3 [(0, .ref md), (1, .int x), (2, .int (nI s2))] → W p l e (rmF 0 0) s m ([.ref md, .int x] : List Value).toArray below meth c H locs 0 0 (MQ below (va_Qv (fun w2 => w2 = [(md, .inr (5, [.int th, .int (nI n), .ref d1, .ref d2, .ref d3, .ref d4, .int (nI wt), .int isS, .int (nI nr), .int (nI (if msL mf ml mh x ns 0 = ns then ns + 1 else ns)), .ref d5, .ref d6, .ref d7, .ref d8, .ref d9, .ref da, .ref db, .int sta, .int nx, .int (nI sp), .int (nI cl2), .int (nI np), .ref dc, .ref dd, .ref de, .int (nI ww), .ref df, .ref dg, .ref dh])), (d5, .inl (cI, 24, .inl mf)), (d6, .inl (cI, 24, .inl ml)), (da, .inl (cI, 24, .inl (upd ms x.toNatClampNeg (nI (msL mf ml mh x ns 0))))), (db, .inl (cI, 24, .inl (upd mh (msL mf ml mh x ns 0) x)))]) (sm_B (dC, dI) smC [(cI, .int), (cZ, .boolean)] A) A) ([.ref md, .int x] : List Value).toArray s 0 0 A) (F0 m 2 ls []) := by
    intro N_2
    induction N_2 with
    | zero => intro q s2 _ _ z; exact absurd z (Nat.not_lt_zero _)
    | succ N_2 ih_2 =>
      intro q s2 hqs hv m_2 H locs hP hD hS ls hl
      refine lv_iload_n hx hb d_Mod_giveSlot_2 rfl (lv_at hl 2 rfl) ?_
      refine lv_aload_n hx hb d_Mod_giveSlot_3 rfl (lv_at hl 0 rfl) ?_
      refine va_get (D := (dC, dI)) (ci := 5) (v := .int (nI ns)) (C := R_Mod) (T := T_Mod) (N := 29) hx hb ht i_Mod hown hK hP 0 rfl rfl 9 (by decide) (ht _ mw_615) (fun _ h9 => h9) rfl d_Mod_giveSlot_4 ?_
      refine lv_icmp_ge (tgt := 36) hx hb d_Mod_giveSlot_7 (by decide) (fun c_7 => ?_) (fun c_7 => ?_)
      · skip
        have f_7 : ns ≤ s2 := (nI_leI (a := ns) (b := s2) (by first | omega | decide) (by first | omega | decide)).mp c_7
        obtain rfl : q = 0 := by omega
        have hse : s2 = msL mf ml mh x ns 0 := hv
        refine lv_aload_n hx hb d_Mod_giveSlot_36 rfl (lv_at hl 0 rfl) ?_
        refine va_get (D := (dC, dI)) (ci := 5) (v := .ref da) (C := R_Mod) (T := T_Mod) (N := 29) hx hb ht i_Mod hown hK hP 0 rfl rfl 15 (by decide) (ht _ mw_621) (fun _ h9 => h9) rfl d_Mod_giveSlot_37 ?_
        refine lv_iload_n hx hb d_Mod_giveSlot_40 rfl (lv_at hl 1 rfl) ?_
        refine lv_iload_n hx hb d_Mod_giveSlot_41 rfl (lv_at hl 2 rfl) ?_
        refine sm_iast (j := x.toNatClampNeg) hx hb hK hP hD hS 3 0 rfl rfl (sm_inB hx1) rfl d_Mod_giveSlot_42 (fun H locs hP hD hS => ?_)
        have hP : va_P (dC, dI) smC [(md, .inr (5, [.int th, .int (nI n), .ref d1, .ref d2, .ref d3, .ref d4, .int (nI wt), .int isS, .int (nI nr), .int (nI ns), .ref d5, .ref d6, .ref d7, .ref d8, .ref d9, .ref da, .ref db, .int sta, .int nx, .int (nI sp), .int (nI cl2), .int (nI np), .ref dc, .ref dd, .ref de, .int (nI ww), .ref df, .ref dg, .ref dh])), (d5, .inl (cI, 24, .inl mf)), (d6, .inl (cI, 24, .inl ml)), (da, .inl (cI, 24, .inl (upd ms x.toNatClampNeg (nI s2)))), (db, .inl (cI, 24, .inl mh))] H := hP
        have hD : va_D A [(md, .inr (5, [.int th, .int (nI n), .ref d1, .ref d2, .ref d3, .ref d4, .int (nI wt), .int isS, .int (nI nr), .int (nI ns), .ref d5, .ref d6, .ref d7, .ref d8, .ref d9, .ref da, .ref db, .int sta, .int nx, .int (nI sp), .int (nI cl2), .int (nI np), .ref dc, .ref dd, .ref de, .int (nI ww), .ref df, .ref dg, .ref dh])), (d5, .inl (cI, 24, .inl mf)), (d6, .inl (cI, 24, .inl ml)), (da, .inl (cI, 24, .inl (upd ms x.toNatClampNeg (nI s2)))), (db, .inl (cI, 24, .inl mh))] := hD
        refine lv_aload_n hx hb d_Mod_giveSlot_43 rfl (lv_at hl 0 rfl) ?_
        refine va_get (D := (dC, dI)) (ci := 5) (v := .ref db) (C := R_Mod) (T := T_Mod) (N := 29) hx hb ht i_Mod hown hK hP 0 rfl rfl 16 (by decide) (ht _ mw_622) (fun _ h9 => h9) rfl d_Mod_giveSlot_44 ?_
        refine lv_iload_n hx hb d_Mod_giveSlot_47 rfl (lv_at hl 2 rfl) ?_
        refine lv_iload_n hx hb d_Mod_giveSlot_48 rfl (lv_at hl 1 rfl) ?_
        refine sm_iast (j := s2) hx hb hK hP hD hS 4 0 rfl rfl (vp_in_nI (by first | omega | assumption) (by first | decide | omega)) (nI_clamp (by first | omega | (have := sm_lt31; omega))) d_Mod_giveSlot_49 (fun H locs hP hD hS => ?_)
        have hP : va_P (dC, dI) smC [(md, .inr (5, [.int th, .int (nI n), .ref d1, .ref d2, .ref d3, .ref d4, .int (nI wt), .int isS, .int (nI nr), .int (nI ns), .ref d5, .ref d6, .ref d7, .ref d8, .ref d9, .ref da, .ref db, .int sta, .int nx, .int (nI sp), .int (nI cl2), .int (nI np), .ref dc, .ref dd, .ref de, .int (nI ww), .ref df, .ref dg, .ref dh])), (d5, .inl (cI, 24, .inl mf)), (d6, .inl (cI, 24, .inl ml)), (da, .inl (cI, 24, .inl (upd ms x.toNatClampNeg (nI s2)))), (db, .inl (cI, 24, .inl (upd mh s2 x)))] H := hP
        have hD : va_D A [(md, .inr (5, [.int th, .int (nI n), .ref d1, .ref d2, .ref d3, .ref d4, .int (nI wt), .int isS, .int (nI nr), .int (nI ns), .ref d5, .ref d6, .ref d7, .ref d8, .ref d9, .ref da, .ref db, .int sta, .int nx, .int (nI sp), .int (nI cl2), .int (nI np), .ref dc, .ref dd, .ref de, .int (nI ww), .ref df, .ref dg, .ref dh])), (d5, .inl (cI, 24, .inl mf)), (d6, .inl (cI, 24, .inl ml)), (da, .inl (cI, 24, .inl (upd ms x.toNatClampNeg (nI s2)))), (db, .inl (cI, 24, .inl (upd mh s2 x)))] := hD
        refine lv_aload_n hx hb d_Mod_giveSlot_50 rfl (lv_at hl 0 rfl) ?_
        refine lv_iload_n hx hb d_Mod_giveSlot_51 rfl (lv_at hl 2 rfl) ?_
        refine lv_aload_n hx hb d_Mod_giveSlot_52 rfl (lv_at hl 0 rfl) ?_
        refine va_get (D := (dC, dI)) (ci := 5) (v := .int (nI ns)) (C := R_Mod) (T := T_Mod) (N := 29) hx hb ht i_Mod hown hK hP 0 rfl rfl 9 (by decide) (ht _ mw_615) (fun _ h9 => h9) rfl d_Mod_giveSlot_53 ?_
        refine lv_icmp_ne (tgt := 68) hx hb d_Mod_giveSlot_56 (by decide) (fun c_56 => ?_) (fun c_56 => ?_)
        · skip
          have f_56 : ¬ s2 = ns := fun z => c_56 ((nI_eq (a := s2) (b := ns) (by first | omega | decide) (by first | omega | decide)).mpr z)
          refine lv_aload_n hx hb d_Mod_giveSlot_68 rfl (lv_at hl 0 rfl) ?_
          refine va_get (D := (dC, dI)) (ci := 5) (v := .int (nI ns)) (C := R_Mod) (T := T_Mod) (N := 29) hx hb ht i_Mod hown hK hP 0 rfl rfl 9 (by decide) (ht _ mw_615) (fun _ h9 => h9) rfl d_Mod_giveSlot_69 ?_
          refine va_put (D := (dC, dI)) (ci := 5) (v := .int (nI ns)) (ty := .int) (C := R_Mod) (T := T_Mod) (N := 29) hx hb ht i_Mod t_Mod t_Mod_ok n_Mod hown hK hP hD hS 0 rfl rfl 9 (by decide) (ht _ mw_615) (fun _ h9 => h9) rfl (by decide +kernel) rfl rfl (Nat.le_of_ble_eq_true rfl) d_Mod_giveSlot_72 (fun H locs hP hD hS => ?_)
          have hP : va_P (dC, dI) smC [(md, .inr (5, [.int th, .int (nI n), .ref d1, .ref d2, .ref d3, .ref d4, .int (nI wt), .int isS, .int (nI nr), .int (nI ns), .ref d5, .ref d6, .ref d7, .ref d8, .ref d9, .ref da, .ref db, .int sta, .int nx, .int (nI sp), .int (nI cl2), .int (nI np), .ref dc, .ref dd, .ref de, .int (nI ww), .ref df, .ref dg, .ref dh])), (d5, .inl (cI, 24, .inl mf)), (d6, .inl (cI, 24, .inl ml)), (da, .inl (cI, 24, .inl (upd ms x.toNatClampNeg (nI s2)))), (db, .inl (cI, 24, .inl (upd mh s2 x)))] H := hP
          have hD : va_D A [(md, .inr (5, [.int th, .int (nI n), .ref d1, .ref d2, .ref d3, .ref d4, .int (nI wt), .int isS, .int (nI nr), .int (nI ns), .ref d5, .ref d6, .ref d7, .ref d8, .ref d9, .ref da, .ref db, .int sta, .int nx, .int (nI sp), .int (nI cl2), .int (nI np), .ref dc, .ref dd, .ref de, .int (nI ww), .ref df, .ref dg, .ref dh])), (d5, .inl (cI, 24, .inl mf)), (d6, .inl (cI, 24, .inl ml)), (da, .inl (cI, 24, .inl (upd ms x.toNatClampNeg (nI s2)))), (db, .inl (cI, 24, .inl (upd mh s2 x)))] := hD
          refine sm_rv (ws := [(md, .inr (5, [.int th, .int (nI n), .ref d1, .ref d2, .ref d3, .ref d4, .int (nI wt), .int isS, .int (nI nr), .int (nI ns), .ref d5, .ref d6, .ref d7, .ref d8, .ref d9, .ref da, .ref db, .int sta, .int nx, .int (nI sp), .int (nI cl2), .int (nI np), .ref dc, .ref dd, .ref de, .int (nI ww), .ref df, .ref dg, .ref dh])), (d5, .inl (cI, 24, .inl mf)), (d6, .inl (cI, 24, .inl ml)), (da, .inl (cI, 24, .inl (upd ms x.toNatClampNeg (nI s2)))), (db, .inl (cI, 24, .inl (upd mh s2 x)))]) hx hb hr hlocks hK (hP.sub [0, 1, 2, 3, 4] rfl) (hD.sub [0, 1, 2, 3, 4] (by decide) rfl) hS ?_ d_Mod_giveSlot_75
          show _ = _
          rw [← hse, if_neg f_56]
        · skip
          have f_56 : s2 = ns := (nI_eq (a := s2) (b := ns) (by first | omega | decide) (by first | omega | decide)).mp c_56
          refine lv_aload_n hx hb d_Mod_giveSlot_59 rfl (lv_at hl 0 rfl) ?_
          refine va_get (D := (dC, dI)) (ci := 5) (v := .int (nI ns)) (C := R_Mod) (T := T_Mod) (N := 29) hx hb ht i_Mod hown hK hP 0 rfl rfl 9 (by decide) (ht _ mw_615) (fun _ h9 => h9) rfl d_Mod_giveSlot_60 ?_
          refine lv_iconst (v := 1) hx hb d_Mod_giveSlot_63 (by decide) ?_
          refine lv_iadd hx hb d_Mod_giveSlot_64 ?_
          refine sm_re (nI_add ns 1) ?_
          refine lv_goto (tgt := 72) hx hb d_Mod_giveSlot_65 (by decide) ?_
          refine va_put (D := (dC, dI)) (ci := 5) (v := .int (nI (ns + 1))) (ty := .int) (C := R_Mod) (T := T_Mod) (N := 29) hx hb ht i_Mod t_Mod t_Mod_ok n_Mod hown hK hP hD hS 0 rfl rfl 9 (by decide) (ht _ mw_615) (fun _ h9 => h9) rfl (by decide +kernel) rfl rfl (Nat.le_of_ble_eq_true rfl) d_Mod_giveSlot_72 (fun H locs hP hD hS => ?_)
          have hP : va_P (dC, dI) smC [(md, .inr (5, [.int th, .int (nI n), .ref d1, .ref d2, .ref d3, .ref d4, .int (nI wt), .int isS, .int (nI nr), .int (nI (ns + 1)), .ref d5, .ref d6, .ref d7, .ref d8, .ref d9, .ref da, .ref db, .int sta, .int nx, .int (nI sp), .int (nI cl2), .int (nI np), .ref dc, .ref dd, .ref de, .int (nI ww), .ref df, .ref dg, .ref dh])), (d5, .inl (cI, 24, .inl mf)), (d6, .inl (cI, 24, .inl ml)), (da, .inl (cI, 24, .inl (upd ms x.toNatClampNeg (nI s2)))), (db, .inl (cI, 24, .inl (upd mh s2 x)))] H := hP
          have hD : va_D A [(md, .inr (5, [.int th, .int (nI n), .ref d1, .ref d2, .ref d3, .ref d4, .int (nI wt), .int isS, .int (nI nr), .int (nI (ns + 1)), .ref d5, .ref d6, .ref d7, .ref d8, .ref d9, .ref da, .ref db, .int sta, .int nx, .int (nI sp), .int (nI cl2), .int (nI np), .ref dc, .ref dd, .ref de, .int (nI ww), .ref df, .ref dg, .ref dh])), (d5, .inl (cI, 24, .inl mf)), (d6, .inl (cI, 24, .inl ml)), (da, .inl (cI, 24, .inl (upd ms x.toNatClampNeg (nI s2)))), (db, .inl (cI, 24, .inl (upd mh s2 x)))] := hD
          refine sm_rv (ws := [(md, .inr (5, [.int th, .int (nI n), .ref d1, .ref d2, .ref d3, .ref d4, .int (nI wt), .int isS, .int (nI nr), .int (nI (ns + 1)), .ref d5, .ref d6, .ref d7, .ref d8, .ref d9, .ref da, .ref db, .int sta, .int nx, .int (nI sp), .int (nI cl2), .int (nI np), .ref dc, .ref dd, .ref de, .int (nI ww), .ref df, .ref dg, .ref dh])), (d5, .inl (cI, 24, .inl mf)), (d6, .inl (cI, 24, .inl ml)), (da, .inl (cI, 24, .inl (upd ms x.toNatClampNeg (nI s2)))), (db, .inl (cI, 24, .inl (upd mh s2 x)))]) hx hb hr hlocks hK (hP.sub [0, 1, 2, 3, 4] rfl) (hD.sub [0, 1, 2, 3, 4] (by decide) rfl) hS ?_ d_Mod_giveSlot_75
          show _ = _
          rw [← hse, if_pos f_56]
      · skip
        have f_7 : ¬ ns ≤ s2 := fun z => c_7 ((nI_leI (a := ns) (b := s2) (by first | omega | decide) (by first | omega | decide)).mpr z)
        obtain ⟨q1, rfl⟩ : ∃ z, q = z + 1 := ⟨q - 1, by omega⟩
        refine lv_aload_n hx hb d_Mod_giveSlot_10 rfl (lv_at hl 0 rfl) ?_
        refine va_get (D := (dC, dI)) (ci := 5) (v := .ref d6) (C := R_Mod) (T := T_Mod) (N := 29) hx hb ht i_Mod hown hK hP 0 rfl rfl 11 (by decide) (ht _ mw_617) (fun _ h9 => h9) rfl d_Mod_giveSlot_11 ?_
        refine lv_aload_n hx hb d_Mod_giveSlot_14 rfl (lv_at hl 0 rfl) ?_
        refine va_get (D := (dC, dI)) (ci := 5) (v := .ref db) (C := R_Mod) (T := T_Mod) (N := 29) hx hb ht i_Mod hown hK hP 0 rfl rfl 16 (by decide) (ht _ mw_622) (fun _ h9 => h9) rfl d_Mod_giveSlot_15 ?_
        refine lv_iload_n hx hb d_Mod_giveSlot_18 rfl (lv_at hl 2 rfl) ?_
        refine sm_iald (j := s2) hx hb hK hP 4 0 rfl rfl (vp_in_nI (by first | omega | assumption) (by first | decide | omega)) (nI_clamp (by first | omega | (have := sm_lt31; omega))) d_Mod_giveSlot_19 ?_
        refine sm_iald (j := (mh s2).toNatClampNeg) hx hb hK hP 2 0 rfl rfl (sm_inB (hho s2 (by omega))) rfl d_Mod_giveSlot_20 ?_
        refine lv_aload_n hx hb d_Mod_giveSlot_21 rfl (lv_at hl 0 rfl) ?_
        refine va_get (D := (dC, dI)) (ci := 5) (v := .ref d5) (C := R_Mod) (T := T_Mod) (N := 29) hx hb ht i_Mod hown hK hP 0 rfl rfl 10 (by decide) (ht _ mw_616) (fun _ h9 => h9) rfl d_Mod_giveSlot_22 ?_
        refine lv_iload_n hx hb d_Mod_giveSlot_25 rfl (lv_at hl 1 rfl) ?_
        refine sm_iald (j := x.toNatClampNeg) hx hb hK hP 1 0 rfl rfl (sm_inB hx1) rfl d_Mod_giveSlot_26 ?_
        refine lv_icmp_lt (tgt := 36) hx hb d_Mod_giveSlot_27 (by decide) (fun c_27 => ?_) (fun c_27 => ?_)
        · skip
          have hse : s2 = msL mf ml mh x ns 0 := by rw [← hv, msL, if_pos c_27]
          refine lv_aload_n hx hb d_Mod_giveSlot_36 rfl (lv_at hl 0 rfl) ?_
          refine va_get (D := (dC, dI)) (ci := 5) (v := .ref da) (C := R_Mod) (T := T_Mod) (N := 29) hx hb ht i_Mod hown hK hP 0 rfl rfl 15 (by decide) (ht _ mw_621) (fun _ h9 => h9) rfl d_Mod_giveSlot_37 ?_
          refine lv_iload_n hx hb d_Mod_giveSlot_40 rfl (lv_at hl 1 rfl) ?_
          refine lv_iload_n hx hb d_Mod_giveSlot_41 rfl (lv_at hl 2 rfl) ?_
          refine sm_iast (j := x.toNatClampNeg) hx hb hK hP hD hS 3 0 rfl rfl (sm_inB hx1) rfl d_Mod_giveSlot_42 (fun H locs hP hD hS => ?_)
          have hP : va_P (dC, dI) smC [(md, .inr (5, [.int th, .int (nI n), .ref d1, .ref d2, .ref d3, .ref d4, .int (nI wt), .int isS, .int (nI nr), .int (nI ns), .ref d5, .ref d6, .ref d7, .ref d8, .ref d9, .ref da, .ref db, .int sta, .int nx, .int (nI sp), .int (nI cl2), .int (nI np), .ref dc, .ref dd, .ref de, .int (nI ww), .ref df, .ref dg, .ref dh])), (d5, .inl (cI, 24, .inl mf)), (d6, .inl (cI, 24, .inl ml)), (da, .inl (cI, 24, .inl (upd ms x.toNatClampNeg (nI s2)))), (db, .inl (cI, 24, .inl mh))] H := hP
          have hD : va_D A [(md, .inr (5, [.int th, .int (nI n), .ref d1, .ref d2, .ref d3, .ref d4, .int (nI wt), .int isS, .int (nI nr), .int (nI ns), .ref d5, .ref d6, .ref d7, .ref d8, .ref d9, .ref da, .ref db, .int sta, .int nx, .int (nI sp), .int (nI cl2), .int (nI np), .ref dc, .ref dd, .ref de, .int (nI ww), .ref df, .ref dg, .ref dh])), (d5, .inl (cI, 24, .inl mf)), (d6, .inl (cI, 24, .inl ml)), (da, .inl (cI, 24, .inl (upd ms x.toNatClampNeg (nI s2)))), (db, .inl (cI, 24, .inl mh))] := hD
          refine lv_aload_n hx hb d_Mod_giveSlot_43 rfl (lv_at hl 0 rfl) ?_
          refine va_get (D := (dC, dI)) (ci := 5) (v := .ref db) (C := R_Mod) (T := T_Mod) (N := 29) hx hb ht i_Mod hown hK hP 0 rfl rfl 16 (by decide) (ht _ mw_622) (fun _ h9 => h9) rfl d_Mod_giveSlot_44 ?_
          refine lv_iload_n hx hb d_Mod_giveSlot_47 rfl (lv_at hl 2 rfl) ?_
          refine lv_iload_n hx hb d_Mod_giveSlot_48 rfl (lv_at hl 1 rfl) ?_
          refine sm_iast (j := s2) hx hb hK hP hD hS 4 0 rfl rfl (vp_in_nI (by first | omega | assumption) (by first | decide | omega)) (nI_clamp (by first | omega | (have := sm_lt31; omega))) d_Mod_giveSlot_49 (fun H locs hP hD hS => ?_)
          have hP : va_P (dC, dI) smC [(md, .inr (5, [.int th, .int (nI n), .ref d1, .ref d2, .ref d3, .ref d4, .int (nI wt), .int isS, .int (nI nr), .int (nI ns), .ref d5, .ref d6, .ref d7, .ref d8, .ref d9, .ref da, .ref db, .int sta, .int nx, .int (nI sp), .int (nI cl2), .int (nI np), .ref dc, .ref dd, .ref de, .int (nI ww), .ref df, .ref dg, .ref dh])), (d5, .inl (cI, 24, .inl mf)), (d6, .inl (cI, 24, .inl ml)), (da, .inl (cI, 24, .inl (upd ms x.toNatClampNeg (nI s2)))), (db, .inl (cI, 24, .inl (upd mh s2 x)))] H := hP
          have hD : va_D A [(md, .inr (5, [.int th, .int (nI n), .ref d1, .ref d2, .ref d3, .ref d4, .int (nI wt), .int isS, .int (nI nr), .int (nI ns), .ref d5, .ref d6, .ref d7, .ref d8, .ref d9, .ref da, .ref db, .int sta, .int nx, .int (nI sp), .int (nI cl2), .int (nI np), .ref dc, .ref dd, .ref de, .int (nI ww), .ref df, .ref dg, .ref dh])), (d5, .inl (cI, 24, .inl mf)), (d6, .inl (cI, 24, .inl ml)), (da, .inl (cI, 24, .inl (upd ms x.toNatClampNeg (nI s2)))), (db, .inl (cI, 24, .inl (upd mh s2 x)))] := hD
          refine lv_aload_n hx hb d_Mod_giveSlot_50 rfl (lv_at hl 0 rfl) ?_
          refine lv_iload_n hx hb d_Mod_giveSlot_51 rfl (lv_at hl 2 rfl) ?_
          refine lv_aload_n hx hb d_Mod_giveSlot_52 rfl (lv_at hl 0 rfl) ?_
          refine va_get (D := (dC, dI)) (ci := 5) (v := .int (nI ns)) (C := R_Mod) (T := T_Mod) (N := 29) hx hb ht i_Mod hown hK hP 0 rfl rfl 9 (by decide) (ht _ mw_615) (fun _ h9 => h9) rfl d_Mod_giveSlot_53 ?_
          refine lv_icmp_ne (tgt := 68) hx hb d_Mod_giveSlot_56 (by decide) (fun c_56 => ?_) (fun c_56 => ?_)
          · skip
            have f_56 : ¬ s2 = ns := fun z => c_56 ((nI_eq (a := s2) (b := ns) (by first | omega | decide) (by first | omega | decide)).mpr z)
            refine lv_aload_n hx hb d_Mod_giveSlot_68 rfl (lv_at hl 0 rfl) ?_
            refine va_get (D := (dC, dI)) (ci := 5) (v := .int (nI ns)) (C := R_Mod) (T := T_Mod) (N := 29) hx hb ht i_Mod hown hK hP 0 rfl rfl 9 (by decide) (ht _ mw_615) (fun _ h9 => h9) rfl d_Mod_giveSlot_69 ?_
            refine va_put (D := (dC, dI)) (ci := 5) (v := .int (nI ns)) (ty := .int) (C := R_Mod) (T := T_Mod) (N := 29) hx hb ht i_Mod t_Mod t_Mod_ok n_Mod hown hK hP hD hS 0 rfl rfl 9 (by decide) (ht _ mw_615) (fun _ h9 => h9) rfl (by decide +kernel) rfl rfl (Nat.le_of_ble_eq_true rfl) d_Mod_giveSlot_72 (fun H locs hP hD hS => ?_)
            have hP : va_P (dC, dI) smC [(md, .inr (5, [.int th, .int (nI n), .ref d1, .ref d2, .ref d3, .ref d4, .int (nI wt), .int isS, .int (nI nr), .int (nI ns), .ref d5, .ref d6, .ref d7, .ref d8, .ref d9, .ref da, .ref db, .int sta, .int nx, .int (nI sp), .int (nI cl2), .int (nI np), .ref dc, .ref dd, .ref de, .int (nI ww), .ref df, .ref dg, .ref dh])), (d5, .inl (cI, 24, .inl mf)), (d6, .inl (cI, 24, .inl ml)), (da, .inl (cI, 24, .inl (upd ms x.toNatClampNeg (nI s2)))), (db, .inl (cI, 24, .inl (upd mh s2 x)))] H := hP
            have hD : va_D A [(md, .inr (5, [.int th, .int (nI n), .ref d1, .ref d2, .ref d3, .ref d4, .int (nI wt), .int isS, .int (nI nr), .int (nI ns), .ref d5, .ref d6, .ref d7, .ref d8, .ref d9, .ref da, .ref db, .int sta, .int nx, .int (nI sp), .int (nI cl2), .int (nI np), .ref dc, .ref dd, .ref de, .int (nI ww), .ref df, .ref dg, .ref dh])), (d5, .inl (cI, 24, .inl mf)), (d6, .inl (cI, 24, .inl ml)), (da, .inl (cI, 24, .inl (upd ms x.toNatClampNeg (nI s2)))), (db, .inl (cI, 24, .inl (upd mh s2 x)))] := hD
            refine sm_rv (ws := [(md, .inr (5, [.int th, .int (nI n), .ref d1, .ref d2, .ref d3, .ref d4, .int (nI wt), .int isS, .int (nI nr), .int (nI ns), .ref d5, .ref d6, .ref d7, .ref d8, .ref d9, .ref da, .ref db, .int sta, .int nx, .int (nI sp), .int (nI cl2), .int (nI np), .ref dc, .ref dd, .ref de, .int (nI ww), .ref df, .ref dg, .ref dh])), (d5, .inl (cI, 24, .inl mf)), (d6, .inl (cI, 24, .inl ml)), (da, .inl (cI, 24, .inl (upd ms x.toNatClampNeg (nI s2)))), (db, .inl (cI, 24, .inl (upd mh s2 x)))]) hx hb hr hlocks hK (hP.sub [0, 1, 2, 3, 4] rfl) (hD.sub [0, 1, 2, 3, 4] (by decide) rfl) hS ?_ d_Mod_giveSlot_75
            show _ = _
            rw [← hse, if_neg f_56]
          · skip
            have f_56 : s2 = ns := (nI_eq (a := s2) (b := ns) (by first | omega | decide) (by first | omega | decide)).mp c_56
            refine lv_aload_n hx hb d_Mod_giveSlot_59 rfl (lv_at hl 0 rfl) ?_
            refine va_get (D := (dC, dI)) (ci := 5) (v := .int (nI ns)) (C := R_Mod) (T := T_Mod) (N := 29) hx hb ht i_Mod hown hK hP 0 rfl rfl 9 (by decide) (ht _ mw_615) (fun _ h9 => h9) rfl d_Mod_giveSlot_60 ?_
            refine lv_iconst (v := 1) hx hb d_Mod_giveSlot_63 (by decide) ?_
            refine lv_iadd hx hb d_Mod_giveSlot_64 ?_
            refine sm_re (nI_add ns 1) ?_
            refine lv_goto (tgt := 72) hx hb d_Mod_giveSlot_65 (by decide) ?_
            refine va_put (D := (dC, dI)) (ci := 5) (v := .int (nI (ns + 1))) (ty := .int) (C := R_Mod) (T := T_Mod) (N := 29) hx hb ht i_Mod t_Mod t_Mod_ok n_Mod hown hK hP hD hS 0 rfl rfl 9 (by decide) (ht _ mw_615) (fun _ h9 => h9) rfl (by decide +kernel) rfl rfl (Nat.le_of_ble_eq_true rfl) d_Mod_giveSlot_72 (fun H locs hP hD hS => ?_)
            have hP : va_P (dC, dI) smC [(md, .inr (5, [.int th, .int (nI n), .ref d1, .ref d2, .ref d3, .ref d4, .int (nI wt), .int isS, .int (nI nr), .int (nI (ns + 1)), .ref d5, .ref d6, .ref d7, .ref d8, .ref d9, .ref da, .ref db, .int sta, .int nx, .int (nI sp), .int (nI cl2), .int (nI np), .ref dc, .ref dd, .ref de, .int (nI ww), .ref df, .ref dg, .ref dh])), (d5, .inl (cI, 24, .inl mf)), (d6, .inl (cI, 24, .inl ml)), (da, .inl (cI, 24, .inl (upd ms x.toNatClampNeg (nI s2)))), (db, .inl (cI, 24, .inl (upd mh s2 x)))] H := hP
            have hD : va_D A [(md, .inr (5, [.int th, .int (nI n), .ref d1, .ref d2, .ref d3, .ref d4, .int (nI wt), .int isS, .int (nI nr), .int (nI (ns + 1)), .ref d5, .ref d6, .ref d7, .ref d8, .ref d9, .ref da, .ref db, .int sta, .int nx, .int (nI sp), .int (nI cl2), .int (nI np), .ref dc, .ref dd, .ref de, .int (nI ww), .ref df, .ref dg, .ref dh])), (d5, .inl (cI, 24, .inl mf)), (d6, .inl (cI, 24, .inl ml)), (da, .inl (cI, 24, .inl (upd ms x.toNatClampNeg (nI s2)))), (db, .inl (cI, 24, .inl (upd mh s2 x)))] := hD
            refine sm_rv (ws := [(md, .inr (5, [.int th, .int (nI n), .ref d1, .ref d2, .ref d3, .ref d4, .int (nI wt), .int isS, .int (nI nr), .int (nI (ns + 1)), .ref d5, .ref d6, .ref d7, .ref d8, .ref d9, .ref da, .ref db, .int sta, .int nx, .int (nI sp), .int (nI cl2), .int (nI np), .ref dc, .ref dd, .ref de, .int (nI ww), .ref df, .ref dg, .ref dh])), (d5, .inl (cI, 24, .inl mf)), (d6, .inl (cI, 24, .inl ml)), (da, .inl (cI, 24, .inl (upd ms x.toNatClampNeg (nI s2)))), (db, .inl (cI, 24, .inl (upd mh s2 x)))]) hx hb hr hlocks hK (hP.sub [0, 1, 2, 3, 4] rfl) (hD.sub [0, 1, 2, 3, 4] (by decide) rfl) hS ?_ d_Mod_giveSlot_75
            show _ = _
            rw [← hse, if_pos f_56]
        · skip
          refine lv_iinc (v := nI (s2 + 1)) (lv' := [(2, .int (nI (s2 + 1))), (0, .ref md), (1, .int x)]) hx hb d_Mod_giveSlot_30 hl (k := 2) rfl (nI_add s2 1) (by decide) rfl (fun ls hl => ?_)
          refine lv_goto (tgt := 2) hx hb d_Mod_giveSlot_33 (by decide) ?_
          exact ih_2 q1 (s2 + 1) (by omega) (by rw [← hv, msL, if_neg c_27]) (by omega) _ _ (hP.sub [0, 1, 2, 3, 4] rfl) (hD.sub [0, 1, 2, 3, 4] (by decide) rfl) hS _ (lv_sub hl [1, 2, 0] rfl)
  exact loop_2 (ns + 1) ns 0 (by omega) rfl (by omega) _ _ (hP.sub [0, 1, 2, 3, 4] rfl) (hD.sub [0, 1, 2, 3, 4] (by decide) rfl) hS _ (lv_sub hl [1, 2, 0] rfl)
