abbrev y_Law_start : MethodName := ⟨"ScanMillLaw", "start", "(LScanMill;)I"⟩
theorem mw_400 : Cond.code ⟨"ScanMill", "start", "()V"⟩ prog_1_method_8_code 1 (Option.none : Option FieldType) ∈ wG := wG_t 400 (by decide +kernel) (by decide +kernel)
theorem mw_397 : Cond.methodLink "ScanMillLaw" 7 ⟨"ScanMill", "start", "()V"⟩ ∈ wG := wG_t 397 (by decide +kernel) (by decide +kernel)
theorem mw_398 : Cond.instanceMethod ⟨"ScanMill", "start", "()V"⟩ ∈ wG := wG_t 398 (by decide +kernel) (by decide +kernel)
theorem mw_399 : Cond.selects "ScanMill" ⟨"ScanMill", "start", "()V"⟩ ⟨"ScanMill", "start", "()V"⟩ ∈ wG := wG_t 399 (by decide +kernel) (by decide +kernel)
theorem d_Law_start_0 : decode method_3_code 0 = .ok (.aload_n 0, 1) := by decide +kernel
theorem d_Law_start_1 : decode method_3_code 1 = .ok (.invokevirtual 7, 3) := by decide +kernel
theorem mw_396 : Cond.classLink "ScanMillLaw" 12 "java/lang/IllegalStateException" ∈ wG := wG_t 396 (by decide +kernel) (by decide +kernel)
theorem d_Law_start_4 : decode method_3_code 4 = .ok (.goto 6, 3) := by decide +kernel
theorem d_Law_start_10 : decode method_3_code 10 = .ok (.iconst 0, 1) := by decide +kernel
theorem d_Law_start_11 : decode method_3_code 11 = .ok (.ireturn, 1) := by decide +kernel
theorem d_Law_start_7 : decode method_3_code 7 = .ok (.astore_n 1, 1) := by decide +kernel
theorem d_Law_start_8 : decode method_3_code 8 = .ok (.iconst 1, 1) := by decide +kernel
theorem d_Law_start_9 : decode method_3_code 9 = .ok (.ireturn, 1) := by decide +kernel
set_option maxRecDepth 100000 in
set_option maxHeartbeats 4000000 in
theorem c_Law_start {l : Launch} {dC : Nat → ClassId} {dI : Nat → Nat → Nat} {cI cZ cJ : ClassId} {x0 w : Nat} {sca rn : Int32} {r lv pl : Nat} {mc mr mt mo sp cl2 np : Nat} {gr gs go : Nat → Int32} {nx : Int32}  (htr : l.stackTraces = false)  : sm_L l y_Law_start method_3_code 2 [(0, 4, 7, 12)] (rmX 7 124) (dC, dI) smC [(cI, .int), (cZ, .boolean), (cJ, .long)] [.ref x0] [(x0, .inr (4, [.ref r, .ref lv, .ref pl, .ref mc, .int (nI w), .int sca, .int rn])), (mc, .inr (3, [.ref mr, .ref mt, .ref mo, .int nx, .int (nI sp), .int (nI cl2), .int (nI np)])), (mr, .inl (cI, 8, .inl gr)), (mt, .inl (cI, 24, .inl gs)), (mo, .inl (cI, 300, .inl go))] (fun q w2 => (q = 0 ∧ (fun w2 => (¬ sca = 0) ∧ w2 = [(x0, .inr (4, [.ref r, .ref lv, .ref pl, .ref mc, .int (nI w), .int sca, .int ((1 : Int32))])), (mc, .inr (3, [.ref mr, .ref mt, .ref mo, .int ((0 : Int32)), .int ((0 : Int32)), .int ((0 : Int32)), .int ((0 : Int32))])), (mr, .inl (cI, 8, .inl ((fun _ => (0 : Int32))))), (mt, .inl (cI, 24, .inl ((fun _ => (0 : Int32))))), (mo, .inl (cI, 300, .inl go))]) w2) ∨ (∃ X, (fun X => X = "java/lang/IllegalStateException" ∧ sca = 0) X ∧ q = 1 ∧ w2 = [(x0, .inr (4, [.ref r, .ref lv, .ref pl, .ref mc, .int (nI w), .int sca, .int rn])), (mc, .inr (3, [.ref mr, .ref mt, .ref mo, .int nx, .int (nI sp), .int (nI cl2), .int (nI np)])), (mr, .inl (cI, 8, .inl gr)), (mt, .inl (cI, 24, .inl gs)), (mo, .inl (cI, 300, .inl go))])) := by
  refine sm_L.mk (by decide) (Nat.le_of_ble_eq_true rfl) ?_
  intro p e s m below meth c A H locs ls hx hb hr ht hown hlocks hml hP hK hD hA hS hN hex hstr hSt hl
  have hl : lv_has ls 2 [(0, .ref x0)] := hl
  refine lv_aload_n hx hb d_Law_start_0 rfl (lv_at hl 0 rfl) ?_
  refine sm_goX (wc := [(x0, .inr (4, [.ref r, .ref lv, .ref pl, .ref mc, .int (nI w), .int sca, .int rn])), (mc, .inr (3, [.ref mr, .ref mt, .ref mo, .int nx, .int (nI sp), .int (nI cl2), .int (nI np)])), (mr, .inl (cI, 8, .inl gr)), (mt, .inl (cI, 24, .inl gs)), (mo, .inl (cI, 300, .inl go))]) (wr := []) (fun _ => 7) (sm_runX (As := []) (rest := []) ⟨hx, hb, hml, hown, ht⟩ (c_Mill_start (l := l) (dC := dC) (dI := dI) (cI := cI) (cZ := cZ) (x0 := x0) (w := w) (sca := sca) (rn := rn) (r := r) (lv := lv) (pl := pl) (mc := mc) (mr := mr) (mt := mt) (mo := mo) (sp := sp) (cl2 := cl2) (np := np) (gr := gr) (gs := gs) (go := go) (nx := nx) htr  H.size) (sm_cVX 0 ht mw_400 mw_1 mw_397 mw_398 mw_399 rfl rfl (by decide +kernel) ⟨Nat.le_of_ble_eq_true rfl, Nat.le_of_ble_eq_true rfl⟩) (sm_preVX (ci := 4) hN hstr hSt hS hA hK [0, 1] rfl hP hD [0, 1, 2, 3, 4] rfl rfl (by decide) 0 rfl rfl) rfl rfl hl.1 rfl (lv_room (Nat.le_of_ble_eq_true rfl)) d_Law_start_1 ⟨Nat.le_of_ble_eq_true rfl, Nat.le_of_ble_eq_true rfl⟩) hP hD hS hA [0, 1, 2, 3, 4] [] rfl rfl (by decide) (by decide) ?_ ?_ ?_
  · intro X cX hpl hT hX
    obtain ⟨x, hL, h1, h2, h3, h4⟩ := sm_tab1 hex
    obtain ⟨rfl, -⟩ := hT
    refine ⟨sm_kX (ht _ mw_402) hX, ?_⟩
    rw [hL]
    have h9 := sm_hyes (x := x) (r := []) (pc := 1) hpl hown (by simp [covers, h1, h2]) (by rw [h4]; decide) (by rw [h4]; exact ht _ mw_396) hX
    rw [h3] at h9; exact h9
  · rintro v w1 H locs ⟨rfl, hq⟩ hP hD hS
    refine lv_goto (tgt := 10) hx hb d_Law_start_4 (by decide) ?_
    refine lv_iconst (v := 0) hx hb d_Law_start_10 (by decide) ?_
    exact sm_ri1 (ws := w1) hx hb hr hlocks hK hP hD hS (Or.inl ⟨rfl, hq⟩) d_Law_start_11
  · intro X a H locs hT hP hD hS
    refine lv_astore_n (lv' := [(1, .ref a), (0, .ref x0)]) hx hb d_Law_start_7 rfl hl (by decide) rfl (fun ls hl => ?_)
    refine lv_iconst (v := 1) hx hb d_Law_start_8 (by decide) ?_
    exact sm_ri1 (ws := [(x0, .inr (4, [.ref r, .ref lv, .ref pl, .ref mc, .int (nI w), .int sca, .int rn])), (mc, .inr (3, [.ref mr, .ref mt, .ref mo, .int nx, .int (nI sp), .int (nI cl2), .int (nI np)])), (mr, .inl (cI, 8, .inl gr)), (mt, .inl (cI, 24, .inl gs)), (mo, .inl (cI, 300, .inl go))]) hx hb hr hlocks hK hP hD hS (Or.inr ⟨_, hT, rfl, rfl⟩) d_Law_start_9
abbrev y_Law_run : MethodName := ⟨"ScanMillLaw", "run", "(LScanMill;I[J)I"⟩
theorem mw_481 : Cond.code ⟨"ScanMill", "run", "(I)I"⟩ prog_1_method_9_code 3 (Option.some FieldType.int) ∈ wG := wG_t 481 (by decide +kernel) (by decide +kernel)
theorem mw_478 : Cond.methodLink "ScanMillLaw" 14 ⟨"ScanMill", "run", "(I)I"⟩ ∈ wG := wG_t 478 (by decide +kernel) (by decide +kernel)
theorem mw_479 : Cond.instanceMethod ⟨"ScanMill", "run", "(I)I"⟩ ∈ wG := wG_t 479 (by decide +kernel) (by decide +kernel)
theorem mw_480 : Cond.selects "ScanMill" ⟨"ScanMill", "run", "(I)I"⟩ ⟨"ScanMill", "run", "(I)I"⟩ ∈ wG := wG_t 480 (by decide +kernel) (by decide +kernel)
theorem d_Law_run_0 : decode method_4_code 0 = .ok (.aload_n 2, 1) := by decide +kernel
theorem d_Law_run_1 : decode method_4_code 1 = .ok (.iconst 0, 1) := by decide +kernel
theorem d_Law_run_2 : decode method_4_code 2 = .ok (.aload_n 0, 1) := by decide +kernel
theorem d_Law_run_3 : decode method_4_code 3 = .ok (.iload_n 1, 1) := by decide +kernel
theorem d_Law_run_4 : decode method_4_code 4 = .ok (.invokevirtual 14, 3) := by decide +kernel
theorem mw_477 : Cond.classLink "ScanMillLaw" 18 "java/lang/IllegalArgumentException" ∈ wG := wG_t 477 (by decide +kernel) (by decide +kernel)
theorem d_Law_run_7 : decode method_4_code 7 = .ok (.i2l, 1) := by decide +kernel
theorem d_Law_run_8 : decode method_4_code 8 = .ok (.lastore, 1) := by decide +kernel
theorem d_Law_run_9 : decode method_4_code 9 = .ok (.goto 9, 3) := by decide +kernel
theorem d_Law_run_18 : decode method_4_code 18 = .ok (.iconst 0, 1) := by decide +kernel
theorem d_Law_run_19 : decode method_4_code 19 = .ok (.ireturn, 1) := by decide +kernel
theorem d_Law_run_12 : decode method_4_code 12 = .ok (.astore_n 3, 1) := by decide +kernel
theorem d_Law_run_13 : decode method_4_code 13 = .ok (.iconst 1, 1) := by decide +kernel
theorem d_Law_run_14 : decode method_4_code 14 = .ok (.ireturn, 1) := by decide +kernel
theorem d_Law_run_15 : decode method_4_code 15 = .ok (.astore_n 3, 1) := by decide +kernel
theorem d_Law_run_16 : decode method_4_code 16 = .ok (.iconst 2, 1) := by decide +kernel
theorem d_Law_run_17 : decode method_4_code 17 = .ok (.ireturn, 1) := by decide +kernel
set_option maxRecDepth 100000 in
set_option maxHeartbeats 4000000 in
theorem c_Law_run {l : Launch} {dC : Nat → ClassId} {dI : Nat → Nat → Nat} {cI cZ cJ : ClassId} {x0 w : Nat} {sca rn : Int32} {lv : Nat} {r rk ra rb rc n : Nat} {fk fa fb fc : Nat → Int32} {pl pf pa po pr ps pd ph pq wo wr : Nat} {fi la ov rg sl od rh sh : Nat → Int32} {sc : Int32} {mc mr mt mo sp cl2 np : Nat} {gr gs go : Nat → Int32} {nx : Int32} {nn : Int32} {ou : Nat} {fo : Nat → Int64} (htr : l.stackTraces = false) (hn : n ≤ 60) (hsp : sp ≤ 3000) (hnp : np ≤ sp) : sm_L l y_Law_run method_4_code 4 [(0, 9, 12, 18), (0, 9, 15, 12)] (rmX 7 126) (dC, dI) smC [(cI, .int), (cZ, .boolean), (cJ, .long)] [.ref x0, .int nn, .ref ou] [(ou, .inl (cJ, 1, .inr (.inl fo))), (x0, .inr (4, [.ref r, .ref lv, .ref pl, .ref mc, .int (nI w), .int sca, .int rn])), (r, .inr (0, [.ref rk, .ref ra, .ref rb, .ref rc, .int (nI n)])), (rk, .inl (cI, 60, .inl fk)), (ra, .inl (cI, 60, .inl fa)), (rb, .inl (cI, 60, .inl fb)), (rc, .inl (cI, 60, .inl fc)), (pl, .inr (2, [.ref pf, .ref pa, .ref po, .ref pr, .ref ps, .ref pd, .ref ph, .ref pq, .int (nI wo), .int (nI wr), .int sc])), (pf, .inl (cI, 24, .inl fi)), (pa, .inl (cI, 24, .inl la)), (po, .inl (cZ, 24, .inl ov)), (pr, .inl (cI, 24, .inl rg)), (ps, .inl (cI, 24, .inl sl)), (pd, .inl (cI, 24, .inl od)), (ph, .inl (cI, 8, .inl rh)), (pq, .inl (cI, 24, .inl sh)), (mc, .inr (3, [.ref mr, .ref mt, .ref mo, .int nx, .int (nI sp), .int (nI cl2), .int (nI np)])), (mr, .inl (cI, 8, .inl gr)), (mt, .inl (cI, 24, .inl gs)), (mo, .inl (cI, 300, .inl go))] (fun q w2 => (∃ r9 w1, q = 0 ∧ (fun q w2 => ∃ nq : Nat, nn = nI nq ∧ 1 ≤ nq ∧ nq ≤ 500 ∧ rst rn n fk nx sp = 1 ∧ q = (nI ((runF n fk fa fb fc rg sl nq 0 (nx, sp, cl2, np, gr, gs, go)).1)) ∧ w2 = [(x0, .inr (4, [.ref r, .ref lv, .ref pl, .ref mc, .int (nI w), .int sca, .int rn])), (r, .inr (0, [.ref rk, .ref ra, .ref rb, .ref rc, .int (nI n)])), (rk, .inl (cI, 60, .inl fk)), (ra, .inl (cI, 60, .inl fa)), (rb, .inl (cI, 60, .inl fb)), (rc, .inl (cI, 60, .inl fc)), (pl, .inr (2, [.ref pf, .ref pa, .ref po, .ref pr, .ref ps, .ref pd, .ref ph, .ref pq, .int (nI wo), .int (nI wr), .int sc])), (pf, .inl (cI, 24, .inl fi)), (pa, .inl (cI, 24, .inl la)), (po, .inl (cZ, 24, .inl ov)), (pr, .inl (cI, 24, .inl rg)), (ps, .inl (cI, 24, .inl sl)), (pd, .inl (cI, 24, .inl od)), (ph, .inl (cI, 8, .inl rh)), (pq, .inl (cI, 24, .inl sh)), (mc, .inr (3, [.ref mr, .ref mt, .ref mo, .int ((runF n fk fa fb fc rg sl nq 0 (nx, sp, cl2, np, gr, gs, go)).2.1), .int (nI ((runF n fk fa fb fc rg sl nq 0 (nx, sp, cl2, np, gr, gs, go)).2.2.1)), .int (nI ((runF n fk fa fb fc rg sl nq 0 (nx, sp, cl2, np, gr, gs, go)).2.2.2.1)), .int (nI ((runF n fk fa fb fc rg sl nq 0 (nx, sp, cl2, np, gr, gs, go)).2.2.2.2.1))])), (mr, .inl (cI, 8, .inl ((runF n fk fa fb fc rg sl nq 0 (nx, sp, cl2, np, gr, gs, go)).2.2.2.2.2.1))), (mt, .inl (cI, 24, .inl ((runF n fk fa fb fc rg sl nq 0 (nx, sp, cl2, np, gr, gs, go)).2.2.2.2.2.2.1))), (mo, .inl (cI, 300, .inl ((runF n fk fa fb fc rg sl nq 0 (nx, sp, cl2, np, gr, gs, go)).2.2.2.2.2.2.2)))]) r9 w1 ∧ w2 = (ou, .inl (cJ, 1, .inr (.inl (vp_updL fo 0 r9.toInt64)))) :: w1) ∨ (∃ X, (fun X => (X = "java/lang/IllegalArgumentException" ∧ wi nn 1 500 = false) ∨ (X = "java/lang/IllegalStateException" ∧ wi nn 1 500 = true ∧ ¬ rst rn n fk nx sp = 1)) X ∧ q = (if X = "java/lang/IllegalArgumentException" then 1 else 2) ∧ w2 = [(ou, .inl (cJ, 1, .inr (.inl fo))), (x0, .inr (4, [.ref r, .ref lv, .ref pl, .ref mc, .int (nI w), .int sca, .int rn])), (r, .inr (0, [.ref rk, .ref ra, .ref rb, .ref rc, .int (nI n)])), (rk, .inl (cI, 60, .inl fk)), (ra, .inl (cI, 60, .inl fa)), (rb, .inl (cI, 60, .inl fb)), (rc, .inl (cI, 60, .inl fc)), (pl, .inr (2, [.ref pf, .ref pa, .ref po, .ref pr, .ref ps, .ref pd, .ref ph, .ref pq, .int (nI wo), .int (nI wr), .int sc])), (pf, .inl (cI, 24, .inl fi)), (pa, .inl (cI, 24, .inl la)), (po, .inl (cZ, 24, .inl ov)), (pr, .inl (cI, 24, .inl rg)), (ps, .inl (cI, 24, .inl sl)), (pd, .inl (cI, 24, .inl od)), (ph, .inl (cI, 8, .inl rh)), (pq, .inl (cI, 24, .inl sh)), (mc, .inr (3, [.ref mr, .ref mt, .ref mo, .int nx, .int (nI sp), .int (nI cl2), .int (nI np)])), (mr, .inl (cI, 8, .inl gr)), (mt, .inl (cI, 24, .inl gs)), (mo, .inl (cI, 300, .inl go))])) := by
  refine sm_L.mk (by decide) (Nat.le_of_ble_eq_true rfl) ?_
  intro p e s m below meth c A H locs ls hx hb hr ht hown hlocks hml hP hK hD hA hS hN hex hstr hSt hl
  have hl : lv_has ls 4 [(0, .ref x0), (1, .int nn), (2, .ref ou)] := hl
  refine lv_aload_n hx hb d_Law_run_0 rfl (lv_at hl 2 rfl) ?_
  refine lv_iconst (v := 0) hx hb d_Law_run_1 (by decide) ?_
  refine lv_aload_n hx hb d_Law_run_2 rfl (lv_at hl 0 rfl) ?_
  refine lv_iload_n hx hb d_Law_run_3 rfl (lv_at hl 1 rfl) ?_
  refine sm_goX (wc := [(x0, .inr (4, [.ref r, .ref lv, .ref pl, .ref mc, .int (nI w), .int sca, .int rn])), (r, .inr (0, [.ref rk, .ref ra, .ref rb, .ref rc, .int (nI n)])), (rk, .inl (cI, 60, .inl fk)), (ra, .inl (cI, 60, .inl fa)), (rb, .inl (cI, 60, .inl fb)), (rc, .inl (cI, 60, .inl fc)), (pl, .inr (2, [.ref pf, .ref pa, .ref po, .ref pr, .ref ps, .ref pd, .ref ph, .ref pq, .int (nI wo), .int (nI wr), .int sc])), (pf, .inl (cI, 24, .inl fi)), (pa, .inl (cI, 24, .inl la)), (po, .inl (cZ, 24, .inl ov)), (pr, .inl (cI, 24, .inl rg)), (ps, .inl (cI, 24, .inl sl)), (pd, .inl (cI, 24, .inl od)), (ph, .inl (cI, 8, .inl rh)), (pq, .inl (cI, 24, .inl sh)), (mc, .inr (3, [.ref mr, .ref mt, .ref mo, .int nx, .int (nI sp), .int (nI cl2), .int (nI np)])), (mr, .inl (cI, 8, .inl gr)), (mt, .inl (cI, 24, .inl gs)), (mo, .inl (cI, 300, .inl go))]) (wr := [(ou, .inl (cJ, 1, .inr (.inl fo)))]) (fun X => if X = "java/lang/IllegalArgumentException" then 12 else 15) (sm_runX (As := [.int nn]) (rest := [.int (0 : Int32), .ref ou]) ⟨hx, hb, hml, hown, ht⟩ (c_Mill_run (l := l) (dC := dC) (dI := dI) (cI := cI) (cZ := cZ) (x0 := x0) (w := w) (sca := sca) (rn := rn) (lv := lv) (r := r) (rk := rk) (ra := ra) (rb := rb) (rc := rc) (n := n) (fk := fk) (fa := fa) (fb := fb) (fc := fc) (pl := pl) (pf := pf) (pa := pa) (po := po) (pr := pr) (ps := ps) (pd := pd) (ph := ph) (pq := pq) (wo := wo) (wr := wr) (fi := fi) (la := la) (ov := ov) (rg := rg) (sl := sl) (od := od) (rh := rh) (sh := sh) (sc := sc) (mc := mc) (mr := mr) (mt := mt) (mo := mo) (sp := sp) (cl2 := cl2) (np := np) (gr := gr) (gs := gs) (go := go) (nx := nx) (nn := nn) htr hn hsp hnp H.size) (sm_cVX 1 ht mw_481 mw_1 mw_478 mw_479 mw_480 rfl rfl (by decide +kernel) ⟨Nat.le_of_ble_eq_true rfl, Nat.le_of_ble_eq_true rfl⟩) (sm_preVX (ci := 4) hN hstr hSt hS hA hK [0, 1] rfl hP hD [1, 2, 3, 4, 5, 6, 7, 8, 9, 10, 11, 12, 13, 14, 15, 16, 17, 18, 19] rfl rfl (by decide) 1 rfl rfl) rfl rfl hl.1 rfl (lv_room (Nat.le_of_ble_eq_true rfl)) d_Law_run_4 ⟨Nat.le_of_ble_eq_true rfl, Nat.le_of_ble_eq_true rfl⟩) hP hD hS hA [1, 2, 3, 4, 5, 6, 7, 8, 9, 10, 11, 12, 13, 14, 15, 16, 17, 18, 19] [0] rfl rfl (by decide) (by decide) ?_ ?_ ?_
  · intro X cX hpl hT hX
    obtain ⟨x, y, hL, ⟨h1, h2, h3, h4⟩, ⟨g1, g2, g3, g4⟩⟩ := sm_tab2 hex
    rcases hT with ⟨rfl, -⟩ | ⟨rfl, -⟩
    · refine ⟨sm_kX (ht _ mw_483) hX, ?_⟩
      rw [hL]
      have h9 := sm_hyes (x := x) (r := [y]) (pc := 4) hpl hown (by simp [covers, h1, h2]) (by rw [h4]; decide) (by rw [h4]; exact ht _ mw_477) hX
      rw [h3] at h9; exact h9
    · refine ⟨sm_kX (ht _ mw_402) hX, ?_⟩
      rw [hL]
      have h9 := sm_hyes (x := y) (r := []) (pc := 4) hpl hown (by simp [covers, g1, g2]) (by rw [g4]; decide) (by rw [g4]; exact ht _ mw_396) hX
      rw [g3] at h9
      exact sm_hno (x := x) hpl hown (by simp [covers, h1, h2]) (by rw [h4]; decide) (by rw [h4]; exact ht _ mw_477) hX hstr.nc h9
  · rintro v w1 H locs ⟨r9, rfl, hq⟩ hP hD hS
    refine lv_i2l hx hb d_Law_run_7 rfl ?_
    refine va_last hx hb hK hP hD hS 0 2 rfl rfl (sm_inB (by decide)) d_Law_run_8 (fun H locs hP hD hS => ?_)
    refine lv_goto (tgt := 18) hx hb d_Law_run_9 (by decide) ?_
    refine lv_iconst (v := 0) hx hb d_Law_run_18 (by decide) ?_
    exact sm_ri1 (ws := (ou, .inl (cJ, 1, .inr (.inl (vp_updL fo 0 r9.toInt64)))) :: w1) hx hb hr hlocks hK hP hD hS (Or.inl ⟨r9, w1, rfl, hq, rfl⟩) d_Law_run_19
  · intro X a H locs hT hP hD hS
    have hT2 := hT
    rcases hT2 with ⟨rfl, -⟩ | ⟨rfl, -⟩
    · skip
      refine lv_astore_n (lv' := [(3, .ref a), (0, .ref x0), (1, .int nn), (2, .ref ou)]) hx hb d_Law_run_12 rfl hl (by decide) rfl (fun ls hl => ?_)
      refine lv_iconst (v := 1) hx hb d_Law_run_13 (by decide) ?_
      exact sm_ri1 (ws := [(ou, .inl (cJ, 1, .inr (.inl fo))), (x0, .inr (4, [.ref r, .ref lv, .ref pl, .ref mc, .int (nI w), .int sca, .int rn])), (r, .inr (0, [.ref rk, .ref ra, .ref rb, .ref rc, .int (nI n)])), (rk, .inl (cI, 60, .inl fk)), (ra, .inl (cI, 60, .inl fa)), (rb, .inl (cI, 60, .inl fb)), (rc, .inl (cI, 60, .inl fc)), (pl, .inr (2, [.ref pf, .ref pa, .ref po, .ref pr, .ref ps, .ref pd, .ref ph, .ref pq, .int (nI wo), .int (nI wr), .int sc])), (pf, .inl (cI, 24, .inl fi)), (pa, .inl (cI, 24, .inl la)), (po, .inl (cZ, 24, .inl ov)), (pr, .inl (cI, 24, .inl rg)), (ps, .inl (cI, 24, .inl sl)), (pd, .inl (cI, 24, .inl od)), (ph, .inl (cI, 8, .inl rh)), (pq, .inl (cI, 24, .inl sh)), (mc, .inr (3, [.ref mr, .ref mt, .ref mo, .int nx, .int (nI sp), .int (nI cl2), .int (nI np)])), (mr, .inl (cI, 8, .inl gr)), (mt, .inl (cI, 24, .inl gs)), (mo, .inl (cI, 300, .inl go))]) hx hb hr hlocks hK hP hD hS (Or.inr ⟨_, hT, rfl, rfl⟩) d_Law_run_14
    · skip
      refine lv_astore_n (lv' := [(3, .ref a), (0, .ref x0), (1, .int nn), (2, .ref ou)]) hx hb d_Law_run_15 rfl hl (by decide) rfl (fun ls hl => ?_)
      refine lv_iconst (v := 2) hx hb d_Law_run_16 (by decide) ?_
      exact sm_ri1 (ws := [(ou, .inl (cJ, 1, .inr (.inl fo))), (x0, .inr (4, [.ref r, .ref lv, .ref pl, .ref mc, .int (nI w), .int sca, .int rn])), (r, .inr (0, [.ref rk, .ref ra, .ref rb, .ref rc, .int (nI n)])), (rk, .inl (cI, 60, .inl fk)), (ra, .inl (cI, 60, .inl fa)), (rb, .inl (cI, 60, .inl fb)), (rc, .inl (cI, 60, .inl fc)), (pl, .inr (2, [.ref pf, .ref pa, .ref po, .ref pr, .ref ps, .ref pd, .ref ph, .ref pq, .int (nI wo), .int (nI wr), .int sc])), (pf, .inl (cI, 24, .inl fi)), (pa, .inl (cI, 24, .inl la)), (po, .inl (cZ, 24, .inl ov)), (pr, .inl (cI, 24, .inl rg)), (ps, .inl (cI, 24, .inl sl)), (pd, .inl (cI, 24, .inl od)), (ph, .inl (cI, 8, .inl rh)), (pq, .inl (cI, 24, .inl sh)), (mc, .inr (3, [.ref mr, .ref mt, .ref mo, .int nx, .int (nI sp), .int (nI cl2), .int (nI np)])), (mr, .inl (cI, 8, .inl gr)), (mt, .inl (cI, 24, .inl gs)), (mo, .inl (cI, 300, .inl go))]) hx hb hr hlocks hK hP hD hS (Or.inr ⟨_, hT, rfl, rfl⟩) d_Law_run_17
abbrev y_Law_now : MethodName := ⟨"ScanMillLaw", "now", "(LScanMill;I[J)I"⟩
theorem mw_546 : Cond.code ⟨"ScanMill", "now", "(I)I"⟩ prog_1_method_10_code 2 (Option.some FieldType.int) ∈ wG := wG_t 546 (by decide +kernel) (by decide +kernel)
theorem mw_543 : Cond.methodLink "ScanMillLaw" 20 ⟨"ScanMill", "now", "(I)I"⟩ ∈ wG := wG_t 543 (by decide +kernel) (by decide +kernel)
theorem mw_544 : Cond.instanceMethod ⟨"ScanMill", "now", "(I)I"⟩ ∈ wG := wG_t 544 (by decide +kernel) (by decide +kernel)
theorem mw_545 : Cond.selects "ScanMill" ⟨"ScanMill", "now", "(I)I"⟩ ⟨"ScanMill", "now", "(I)I"⟩ ∈ wG := wG_t 545 (by decide +kernel) (by decide +kernel)
theorem d_Law_now_0 : decode method_5_code 0 = .ok (.aload_n 2, 1) := by decide +kernel
theorem d_Law_now_1 : decode method_5_code 1 = .ok (.iconst 0, 1) := by decide +kernel
theorem d_Law_now_2 : decode method_5_code 2 = .ok (.aload_n 0, 1) := by decide +kernel
theorem d_Law_now_3 : decode method_5_code 3 = .ok (.iload_n 1, 1) := by decide +kernel
theorem d_Law_now_4 : decode method_5_code 4 = .ok (.invokevirtual 20, 3) := by decide +kernel
theorem mw_542 : Cond.classLink "ScanMillLaw" 23 "java/util/NoSuchElementException" ∈ wG := wG_t 542 (by decide +kernel) (by decide +kernel)
theorem d_Law_now_7 : decode method_5_code 7 = .ok (.i2l, 1) := by decide +kernel
theorem d_Law_now_8 : decode method_5_code 8 = .ok (.lastore, 1) := by decide +kernel
theorem d_Law_now_9 : decode method_5_code 9 = .ok (.goto 6, 3) := by decide +kernel
theorem d_Law_now_15 : decode method_5_code 15 = .ok (.iconst 0, 1) := by decide +kernel
theorem d_Law_now_16 : decode method_5_code 16 = .ok (.ireturn, 1) := by decide +kernel
theorem d_Law_now_12 : decode method_5_code 12 = .ok (.astore_n 3, 1) := by decide +kernel
theorem d_Law_now_13 : decode method_5_code 13 = .ok (.iconst 1, 1) := by decide +kernel
theorem d_Law_now_14 : decode method_5_code 14 = .ok (.ireturn, 1) := by decide +kernel
set_option maxRecDepth 100000 in
set_option maxHeartbeats 4000000 in
theorem c_Law_now {l : Launch} {dC : Nat → ClassId} {dI : Nat → Nat → Nat} {cI cZ cJ : ClassId} {x0 w : Nat} {sca rn : Int32} {r : Nat} {lv lf : Nat} {ff : Nat → Int32} {stl : Int32} {pl pf pa po pr ps pd ph pq wo wr : Nat} {fi la ov rg sl od rh sh : Nat → Int32} {sc : Int32} {mc mr mt mo sp cl2 np : Nat} {gr gs go : Nat → Int32} {nx : Int32} {v : Int32} {ou : Nat} {fo : Nat → Int64} (htr : l.stackTraces = false)  : sm_L l y_Law_now method_5_code 4 [(0, 9, 12, 23)] (rmX 7 125) (dC, dI) smC [(cI, .int), (cZ, .boolean), (cJ, .long)] [.ref x0, .int v, .ref ou] [(ou, .inl (cJ, 1, .inr (.inl fo))), (x0, .inr (4, [.ref r, .ref lv, .ref pl, .ref mc, .int (nI w), .int sca, .int rn])), (lv, .inr (1, [.ref lf, .int stl])), (lf, .inl (cI, 61, .inl ff)), (pl, .inr (2, [.ref pf, .ref pa, .ref po, .ref pr, .ref ps, .ref pd, .ref ph, .ref pq, .int (nI wo), .int (nI wr), .int sc])), (pf, .inl (cI, 24, .inl fi)), (pa, .inl (cI, 24, .inl la)), (po, .inl (cZ, 24, .inl ov)), (pr, .inl (cI, 24, .inl rg)), (ps, .inl (cI, 24, .inl sl)), (pd, .inl (cI, 24, .inl od)), (ph, .inl (cI, 8, .inl rh)), (pq, .inl (cI, 24, .inl sh)), (mc, .inr (3, [.ref mr, .ref mt, .ref mo, .int nx, .int (nI sp), .int (nI cl2), .int (nI np)])), (mr, .inl (cI, 8, .inl gr)), (mt, .inl (cI, 24, .inl gs)), (mo, .inl (cI, 300, .inl go))] (fun q w2 => (∃ r9 w1, q = 0 ∧ (fun q w2 => (¬ rn = 0) ∧ hasB ff nx v = true ∧ q = (rdM rg sl gr gs v) ∧ w2 = [(x0, .inr (4, [.ref r, .ref lv, .ref pl, .ref mc, .int (nI w), .int sca, .int rn])), (lv, .inr (1, [.ref lf, .int stl])), (lf, .inl (cI, 61, .inl ff)), (pl, .inr (2, [.ref pf, .ref pa, .ref po, .ref pr, .ref ps, .ref pd, .ref ph, .ref pq, .int (nI wo), .int (nI wr), .int sc])), (pf, .inl (cI, 24, .inl fi)), (pa, .inl (cI, 24, .inl la)), (po, .inl (cZ, 24, .inl ov)), (pr, .inl (cI, 24, .inl rg)), (ps, .inl (cI, 24, .inl sl)), (pd, .inl (cI, 24, .inl od)), (ph, .inl (cI, 8, .inl rh)), (pq, .inl (cI, 24, .inl sh)), (mc, .inr (3, [.ref mr, .ref mt, .ref mo, .int nx, .int (nI sp), .int (nI cl2), .int (nI np)])), (mr, .inl (cI, 8, .inl gr)), (mt, .inl (cI, 24, .inl gs)), (mo, .inl (cI, 300, .inl go))]) r9 w1 ∧ w2 = (ou, .inl (cJ, 1, .inr (.inl (vp_updL fo 0 r9.toInt64)))) :: w1) ∨ (∃ X, (fun X => X = "java/util/NoSuchElementException" ∧ ¬ (¬ rn = 0 ∧ hasB ff nx v = true)) X ∧ q = 1 ∧ w2 = [(ou, .inl (cJ, 1, .inr (.inl fo))), (x0, .inr (4, [.ref r, .ref lv, .ref pl, .ref mc, .int (nI w), .int sca, .int rn])), (lv, .inr (1, [.ref lf, .int stl])), (lf, .inl (cI, 61, .inl ff)), (pl, .inr (2, [.ref pf, .ref pa, .ref po, .ref pr, .ref ps, .ref pd, .ref ph, .ref pq, .int (nI wo), .int (nI wr), .int sc])), (pf, .inl (cI, 24, .inl fi)), (pa, .inl (cI, 24, .inl la)), (po, .inl (cZ, 24, .inl ov)), (pr, .inl (cI, 24, .inl rg)), (ps, .inl (cI, 24, .inl sl)), (pd, .inl (cI, 24, .inl od)), (ph, .inl (cI, 8, .inl rh)), (pq, .inl (cI, 24, .inl sh)), (mc, .inr (3, [.ref mr, .ref mt, .ref mo, .int nx, .int (nI sp), .int (nI cl2), .int (nI np)])), (mr, .inl (cI, 8, .inl gr)), (mt, .inl (cI, 24, .inl gs)), (mo, .inl (cI, 300, .inl go))])) := by
  refine sm_L.mk (by decide) (Nat.le_of_ble_eq_true rfl) ?_
  intro p e s m below meth c A H locs ls hx hb hr ht hown hlocks hml hP hK hD hA hS hN hex hstr hSt hl
  have hl : lv_has ls 4 [(0, .ref x0), (1, .int v), (2, .ref ou)] := hl
  refine lv_aload_n hx hb d_Law_now_0 rfl (lv_at hl 2 rfl) ?_
  refine lv_iconst (v := 0) hx hb d_Law_now_1 (by decide) ?_
  refine lv_aload_n hx hb d_Law_now_2 rfl (lv_at hl 0 rfl) ?_
  refine lv_iload_n hx hb d_Law_now_3 rfl (lv_at hl 1 rfl) ?_
  refine sm_goX (wc := [(x0, .inr (4, [.ref r, .ref lv, .ref pl, .ref mc, .int (nI w), .int sca, .int rn])), (lv, .inr (1, [.ref lf, .int stl])), (lf, .inl (cI, 61, .inl ff)), (pl, .inr (2, [.ref pf, .ref pa, .ref po, .ref pr, .ref ps, .ref pd, .ref ph, .ref pq, .int (nI wo), .int (nI wr), .int sc])), (pf, .inl (cI, 24, .inl fi)), (pa, .inl (cI, 24, .inl la)), (po, .inl (cZ, 24, .inl ov)), (pr, .inl (cI, 24, .inl rg)), (ps, .inl (cI, 24, .inl sl)), (pd, .inl (cI, 24, .inl od)), (ph, .inl (cI, 8, .inl rh)), (pq, .inl (cI, 24, .inl sh)), (mc, .inr (3, [.ref mr, .ref mt, .ref mo, .int nx, .int (nI sp), .int (nI cl2), .int (nI np)])), (mr, .inl (cI, 8, .inl gr)), (mt, .inl (cI, 24, .inl gs)), (mo, .inl (cI, 300, .inl go))]) (wr := [(ou, .inl (cJ, 1, .inr (.inl fo)))]) (fun _ => 12) (sm_runX (As := [.int v]) (rest := [.int (0 : Int32), .ref ou]) ⟨hx, hb, hml, hown, ht⟩ (c_Mill_now (l := l) (dC := dC) (dI := dI) (cI := cI) (cZ := cZ) (x0 := x0) (w := w) (sca := sca) (rn := rn) (r := r) (lv := lv) (lf := lf) (ff := ff) (stl := stl) (pl := pl) (pf := pf) (pa := pa) (po := po) (pr := pr) (ps := ps) (pd := pd) (ph := ph) (pq := pq) (wo := wo) (wr := wr) (fi := fi) (la := la) (ov := ov) (rg := rg) (sl := sl) (od := od) (rh := rh) (sh := sh) (sc := sc) (mc := mc) (mr := mr) (mt := mt) (mo := mo) (sp := sp) (cl2 := cl2) (np := np) (gr := gr) (gs := gs) (go := go) (nx := nx) (v := v) htr  H.size) (sm_cVX 1 ht mw_546 mw_1 mw_543 mw_544 mw_545 rfl rfl (by decide +kernel) ⟨Nat.le_of_ble_eq_true rfl, Nat.le_of_ble_eq_true rfl⟩) (sm_preVX (ci := 4) hN hstr hSt hS hA hK [0, 1] rfl hP hD [1, 2, 3, 4, 5, 6, 7, 8, 9, 10, 11, 12, 13, 14, 15, 16] rfl rfl (by decide) 1 rfl rfl) rfl rfl hl.1 rfl (lv_room (Nat.le_of_ble_eq_true rfl)) d_Law_now_4 ⟨Nat.le_of_ble_eq_true rfl, Nat.le_of_ble_eq_true rfl⟩) hP hD hS hA [1, 2, 3, 4, 5, 6, 7, 8, 9, 10, 11, 12, 13, 14, 15, 16] [0] rfl rfl (by decide) (by decide) ?_ ?_ ?_
  · intro X cX hpl hT hX
    obtain ⟨x, hL, h1, h2, h3, h4⟩ := sm_tab1 hex
    obtain ⟨rfl, -⟩ := hT
    refine ⟨sm_kX (ht _ mw_548) hX, ?_⟩
    rw [hL]
    have h9 := sm_hyes (x := x) (r := []) (pc := 4) hpl hown (by simp [covers, h1, h2]) (by rw [h4]; decide) (by rw [h4]; exact ht _ mw_542) hX
    rw [h3] at h9; exact h9
  · rintro v w1 H locs ⟨r9, rfl, hq⟩ hP hD hS
    refine lv_i2l hx hb d_Law_now_7 rfl ?_
    refine va_last hx hb hK hP hD hS 0 2 rfl rfl (sm_inB (by decide)) d_Law_now_8 (fun H locs hP hD hS => ?_)
    refine lv_goto (tgt := 15) hx hb d_Law_now_9 (by decide) ?_
    refine lv_iconst (v := 0) hx hb d_Law_now_15 (by decide) ?_
    exact sm_ri1 (ws := (ou, .inl (cJ, 1, .inr (.inl (vp_updL fo 0 r9.toInt64)))) :: w1) hx hb hr hlocks hK hP hD hS (Or.inl ⟨r9, w1, rfl, hq, rfl⟩) d_Law_now_16
  · intro X a H locs hT hP hD hS
    refine lv_astore_n (lv' := [(3, .ref a), (0, .ref x0), (1, .int v), (2, .ref ou)]) hx hb d_Law_now_12 rfl hl (by decide) rfl (fun ls hl => ?_)
    refine lv_iconst (v := 1) hx hb d_Law_now_13 (by decide) ?_
    exact sm_ri1 (ws := [(ou, .inl (cJ, 1, .inr (.inl fo))), (x0, .inr (4, [.ref r, .ref lv, .ref pl, .ref mc, .int (nI w), .int sca, .int rn])), (lv, .inr (1, [.ref lf, .int stl])), (lf, .inl (cI, 61, .inl ff)), (pl, .inr (2, [.ref pf, .ref pa, .ref po, .ref pr, .ref ps, .ref pd, .ref ph, .ref pq, .int (nI wo), .int (nI wr), .int sc])), (pf, .inl (cI, 24, .inl fi)), (pa, .inl (cI, 24, .inl la)), (po, .inl (cZ, 24, .inl ov)), (pr, .inl (cI, 24, .inl rg)), (ps, .inl (cI, 24, .inl sl)), (pd, .inl (cI, 24, .inl od)), (ph, .inl (cI, 8, .inl rh)), (pq, .inl (cI, 24, .inl sh)), (mc, .inr (3, [.ref mr, .ref mt, .ref mo, .int nx, .int (nI sp), .int (nI cl2), .int (nI np)])), (mr, .inl (cI, 8, .inl gr)), (mt, .inl (cI, 24, .inl gs)), (mo, .inl (cI, 300, .inl go))]) hx hb hr hlocks hK hP hD hS (Or.inr ⟨_, hT, rfl, rfl⟩) d_Law_now_14
abbrev y_Law_register : MethodName := ⟨"ScanMillLaw", "register", "(LScanMill;I[J)I"⟩
theorem mw_570 : Cond.code ⟨"ScanMill", "register", "(I)I"⟩ prog_1_method_11_code 2 (Option.some FieldType.int) ∈ wG := wG_t 570 (by decide +kernel) (by decide +kernel)
theorem mw_567 : Cond.methodLink "ScanMillLaw" 25 ⟨"ScanMill", "register", "(I)I"⟩ ∈ wG := wG_t 567 (by decide +kernel) (by decide +kernel)
theorem mw_568 : Cond.instanceMethod ⟨"ScanMill", "register", "(I)I"⟩ ∈ wG := wG_t 568 (by decide +kernel) (by decide +kernel)
theorem mw_569 : Cond.selects "ScanMill" ⟨"ScanMill", "register", "(I)I"⟩ ⟨"ScanMill", "register", "(I)I"⟩ ∈ wG := wG_t 569 (by decide +kernel) (by decide +kernel)
theorem d_Law_register_0 : decode method_6_code 0 = .ok (.aload_n 2, 1) := by decide +kernel
theorem d_Law_register_1 : decode method_6_code 1 = .ok (.iconst 0, 1) := by decide +kernel
theorem d_Law_register_2 : decode method_6_code 2 = .ok (.aload_n 0, 1) := by decide +kernel
theorem d_Law_register_3 : decode method_6_code 3 = .ok (.iload_n 1, 1) := by decide +kernel
theorem d_Law_register_4 : decode method_6_code 4 = .ok (.invokevirtual 25, 3) := by decide +kernel
theorem d_Law_register_7 : decode method_6_code 7 = .ok (.i2l, 1) := by decide +kernel
theorem d_Law_register_8 : decode method_6_code 8 = .ok (.lastore, 1) := by decide +kernel
theorem d_Law_register_9 : decode method_6_code 9 = .ok (.goto 6, 3) := by decide +kernel
theorem d_Law_register_15 : decode method_6_code 15 = .ok (.iconst 0, 1) := by decide +kernel
theorem d_Law_register_16 : decode method_6_code 16 = .ok (.ireturn, 1) := by decide +kernel
theorem d_Law_register_12 : decode method_6_code 12 = .ok (.astore_n 3, 1) := by decide +kernel
theorem d_Law_register_13 : decode method_6_code 13 = .ok (.iconst 1, 1) := by decide +kernel
theorem d_Law_register_14 : decode method_6_code 14 = .ok (.ireturn, 1) := by decide +kernel
set_option maxRecDepth 100000 in
set_option maxHeartbeats 4000000 in
theorem c_Law_register {l : Launch} {dC : Nat → ClassId} {dI : Nat → Nat → Nat} {cI cZ cJ : ClassId} {x0 w : Nat} {sca rn : Int32} {r lv : Nat} {pl pf pa po pr ps pd ph pq wo wr : Nat} {fi la ov rg sl od rh sh : Nat → Int32} {sc : Int32} {mc mr mt mo sp cl2 np : Nat} {gr gs go : Nat → Int32} {nx : Int32} {i : Int32} {ou : Nat} {fo : Nat → Int64} (htr : l.stackTraces = false) (hwr : wr ≤ 8) : sm_L l y_Law_register method_6_code 4 [(0, 9, 12, 23)] (rmX 7 125) (dC, dI) smC [(cI, .int), (cZ, .boolean), (cJ, .long)] [.ref x0, .int i, .ref ou] [(ou, .inl (cJ, 1, .inr (.inl fo))), (x0, .inr (4, [.ref r, .ref lv, .ref pl, .ref mc, .int (nI w), .int sca, .int rn])), (pl, .inr (2, [.ref pf, .ref pa, .ref po, .ref pr, .ref ps, .ref pd, .ref ph, .ref pq, .int (nI wo), .int (nI wr), .int sc])), (pf, .inl (cI, 24, .inl fi)), (pa, .inl (cI, 24, .inl la)), (po, .inl (cZ, 24, .inl ov)), (pr, .inl (cI, 24, .inl rg)), (ps, .inl (cI, 24, .inl sl)), (pd, .inl (cI, 24, .inl od)), (ph, .inl (cI, 8, .inl rh)), (pq, .inl (cI, 24, .inl sh)), (mc, .inr (3, [.ref mr, .ref mt, .ref mo, .int nx, .int (nI sp), .int (nI cl2), .int (nI np)])), (mr, .inl (cI, 8, .inl gr)), (mt, .inl (cI, 24, .inl gs)), (mo, .inl (cI, 300, .inl go))] (fun q w2 => (∃ r9 w1, q = 0 ∧ (fun q w2 => (¬ rn = 0) ∧ inB i wr = true ∧ q = (mA gr 8 i) ∧ w2 = [(x0, .inr (4, [.ref r, .ref lv, .ref pl, .ref mc, .int (nI w), .int sca, .int rn])), (pl, .inr (2, [.ref pf, .ref pa, .ref po, .ref pr, .ref ps, .ref pd, .ref ph, .ref pq, .int (nI wo), .int (nI wr), .int sc])), (pf, .inl (cI, 24, .inl fi)), (pa, .inl (cI, 24, .inl la)), (po, .inl (cZ, 24, .inl ov)), (pr, .inl (cI, 24, .inl rg)), (ps, .inl (cI, 24, .inl sl)), (pd, .inl (cI, 24, .inl od)), (ph, .inl (cI, 8, .inl rh)), (pq, .inl (cI, 24, .inl sh)), (mc, .inr (3, [.ref mr, .ref mt, .ref mo, .int nx, .int (nI sp), .int (nI cl2), .int (nI np)])), (mr, .inl (cI, 8, .inl gr)), (mt, .inl (cI, 24, .inl gs)), (mo, .inl (cI, 300, .inl go))]) r9 w1 ∧ w2 = (ou, .inl (cJ, 1, .inr (.inl (vp_updL fo 0 r9.toInt64)))) :: w1) ∨ (∃ X, (fun X => X = "java/util/NoSuchElementException" ∧ ¬ (¬ rn = 0 ∧ inB i wr = true)) X ∧ q = 1 ∧ w2 = [(ou, .inl (cJ, 1, .inr (.inl fo))), (x0, .inr (4, [.ref r, .ref lv, .ref pl, .ref mc, .int (nI w), .int sca, .int rn])), (pl, .inr (2, [.ref pf, .ref pa, .ref po, .ref pr, .ref ps, .ref pd, .ref ph, .ref pq, .int (nI wo), .int (nI wr), .int sc])), (pf, .inl (cI, 24, .inl fi)), (pa, .inl (cI, 24, .inl la)), (po, .inl (cZ, 24, .inl ov)), (pr, .inl (cI, 24, .inl rg)), (ps, .inl (cI, 24, .inl sl)), (pd, .inl (cI, 24, .inl od)), (ph, .inl (cI, 8, .inl rh)), (pq, .inl (cI, 24, .inl sh)), (mc, .inr (3, [.ref mr, .ref mt, .ref mo, .int nx, .int (nI sp), .int (nI cl2), .int (nI np)])), (mr, .inl (cI, 8, .inl gr)), (mt, .inl (cI, 24, .inl gs)), (mo, .inl (cI, 300, .inl go))])) := by
  refine sm_L.mk (by decide) (Nat.le_of_ble_eq_true rfl) ?_
  intro p e s m below meth c A H locs ls hx hb hr ht hown hlocks hml hP hK hD hA hS hN hex hstr hSt hl
  have hl : lv_has ls 4 [(0, .ref x0), (1, .int i), (2, .ref ou)] := hl
  refine lv_aload_n hx hb d_Law_register_0 rfl (lv_at hl 2 rfl) ?_
  refine lv_iconst (v := 0) hx hb d_Law_register_1 (by decide) ?_
  refine lv_aload_n hx hb d_Law_register_2 rfl (lv_at hl 0 rfl) ?_
  refine lv_iload_n hx hb d_Law_register_3 rfl (lv_at hl 1 rfl) ?_
  refine sm_goX (wc := [(x0, .inr (4, [.ref r, .ref lv, .ref pl, .ref mc, .int (nI w), .int sca, .int rn])), (pl, .inr (2, [.ref pf, .ref pa, .ref po, .ref pr, .ref ps, .ref pd, .ref ph, .ref pq, .int (nI wo), .int (nI wr), .int sc])), (pf, .inl (cI, 24, .inl fi)), (pa, .inl (cI, 24, .inl la)), (po, .inl (cZ, 24, .inl ov)), (pr, .inl (cI, 24, .inl rg)), (ps, .inl (cI, 24, .inl sl)), (pd, .inl (cI, 24, .inl od)), (ph, .inl (cI, 8, .inl rh)), (pq, .inl (cI, 24, .inl sh)), (mc, .inr (3, [.ref mr, .ref mt, .ref mo, .int nx, .int (nI sp), .int (nI cl2), .int (nI np)])), (mr, .inl (cI, 8, .inl gr)), (mt, .inl (cI, 24, .inl gs)), (mo, .inl (cI, 300, .inl go))]) (wr := [(ou, .inl (cJ, 1, .inr (.inl fo)))]) (fun _ => 12) (sm_runX (As := [.int i]) (rest := [.int (0 : Int32), .ref ou]) ⟨hx, hb, hml, hown, ht⟩ (c_Mill_register (l := l) (dC := dC) (dI := dI) (cI := cI) (cZ := cZ) (x0 := x0) (w := w) (sca := sca) (rn := rn) (r := r) (lv := lv) (pl := pl) (pf := pf) (pa := pa) (po := po) (pr := pr) (ps := ps) (pd := pd) (ph := ph) (pq := pq) (wo := wo) (wr := wr) (fi := fi) (la := la) (ov := ov) (rg := rg) (sl := sl) (od := od) (rh := rh) (sh := sh) (sc := sc) (mc := mc) (mr := mr) (mt := mt) (mo := mo) (sp := sp) (cl2 := cl2) (np := np) (gr := gr) (gs := gs) (go := go) (nx := nx) (i := i) htr hwr H.size) (sm_cVX 1 ht mw_570 mw_1 mw_567 mw_568 mw_569 rfl rfl (by decide +kernel) ⟨Nat.le_of_ble_eq_true rfl, Nat.le_of_ble_eq_true rfl⟩) (sm_preVX (ci := 4) hN hstr hSt hS hA hK [0, 1] rfl hP hD [1, 2, 3, 4, 5, 6, 7, 8, 9, 10, 11, 12, 13, 14] rfl rfl (by decide) 1 rfl rfl) rfl rfl hl.1 rfl (lv_room (Nat.le_of_ble_eq_true rfl)) d_Law_register_4 ⟨Nat.le_of_ble_eq_true rfl, Nat.le_of_ble_eq_true rfl⟩) hP hD hS hA [1, 2, 3, 4, 5, 6, 7, 8, 9, 10, 11, 12, 13, 14] [0] rfl rfl (by decide) (by decide) ?_ ?_ ?_
  · intro X cX hpl hT hX
    obtain ⟨x, hL, h1, h2, h3, h4⟩ := sm_tab1 hex
    obtain ⟨rfl, -⟩ := hT
    refine ⟨sm_kX (ht _ mw_548) hX, ?_⟩
    rw [hL]
    have h9 := sm_hyes (x := x) (r := []) (pc := 4) hpl hown (by simp [covers, h1, h2]) (by rw [h4]; decide) (by rw [h4]; exact ht _ mw_542) hX
    rw [h3] at h9; exact h9
  · rintro v w1 H locs ⟨r9, rfl, hq⟩ hP hD hS
    refine lv_i2l hx hb d_Law_register_7 rfl ?_
    refine va_last hx hb hK hP hD hS 0 2 rfl rfl (sm_inB (by decide)) d_Law_register_8 (fun H locs hP hD hS => ?_)
    refine lv_goto (tgt := 15) hx hb d_Law_register_9 (by decide) ?_
    refine lv_iconst (v := 0) hx hb d_Law_register_15 (by decide) ?_
    exact sm_ri1 (ws := (ou, .inl (cJ, 1, .inr (.inl (vp_updL fo 0 r9.toInt64)))) :: w1) hx hb hr hlocks hK hP hD hS (Or.inl ⟨r9, w1, rfl, hq, rfl⟩) d_Law_register_16
  · intro X a H locs hT hP hD hS
    refine lv_astore_n (lv' := [(3, .ref a), (0, .ref x0), (1, .int i), (2, .ref ou)]) hx hb d_Law_register_12 rfl hl (by decide) rfl (fun ls hl => ?_)
    refine lv_iconst (v := 1) hx hb d_Law_register_13 (by decide) ?_
    exact sm_ri1 (ws := [(ou, .inl (cJ, 1, .inr (.inl fo))), (x0, .inr (4, [.ref r, .ref lv, .ref pl, .ref mc, .int (nI w), .int sca, .int rn])), (pl, .inr (2, [.ref pf, .ref pa, .ref po, .ref pr, .ref ps, .ref pd, .ref ph, .ref pq, .int (nI wo), .int (nI wr), .int sc])), (pf, .inl (cI, 24, .inl fi)), (pa, .inl (cI, 24, .inl la)), (po, .inl (cZ, 24, .inl ov)), (pr, .inl (cI, 24, .inl rg)), (ps, .inl (cI, 24, .inl sl)), (pd, .inl (cI, 24, .inl od)), (ph, .inl (cI, 8, .inl rh)), (pq, .inl (cI, 24, .inl sh)), (mc, .inr (3, [.ref mr, .ref mt, .ref mo, .int nx, .int (nI sp), .int (nI cl2), .int (nI np)])), (mr, .inl (cI, 8, .inl gr)), (mt, .inl (cI, 24, .inl gs)), (mo, .inl (cI, 300, .inl go))]) hx hb hr hlocks hK hP hD hS (Or.inr ⟨_, hT, rfl, rfl⟩) d_Law_register_14
abbrev y_Law_slot : MethodName := ⟨"ScanMillLaw", "slot", "(LScanMill;I[J)I"⟩
theorem mw_579 : Cond.code ⟨"ScanMill", "slot", "(I)I"⟩ prog_1_method_12_code 2 (Option.some FieldType.int) ∈ wG := wG_t 579 (by decide +kernel) (by decide +kernel)
theorem mw_576 : Cond.methodLink "ScanMillLaw" 28 ⟨"ScanMill", "slot", "(I)I"⟩ ∈ wG := wG_t 576 (by decide +kernel) (by decide +kernel)
theorem mw_577 : Cond.instanceMethod ⟨"ScanMill", "slot", "(I)I"⟩ ∈ wG := wG_t 577 (by decide +kernel) (by decide +kernel)
theorem mw_578 : Cond.selects "ScanMill" ⟨"ScanMill", "slot", "(I)I"⟩ ⟨"ScanMill", "slot", "(I)I"⟩ ∈ wG := wG_t 578 (by decide +kernel) (by decide +kernel)
theorem d_Law_slot_0 : decode method_7_code 0 = .ok (.aload_n 2, 1) := by decide +kernel
theorem d_Law_slot_1 : decode method_7_code 1 = .ok (.iconst 0, 1) := by decide +kernel
theorem d_Law_slot_2 : decode method_7_code 2 = .ok (.aload_n 0, 1) := by decide +kernel
theorem d_Law_slot_3 : decode method_7_code 3 = .ok (.iload_n 1, 1) := by decide +kernel
theorem d_Law_slot_4 : decode method_7_code 4 = .ok (.invokevirtual 28, 3) := by decide +kernel
theorem d_Law_slot_7 : decode method_7_code 7 = .ok (.i2l, 1) := by decide +kernel
theorem d_Law_slot_8 : decode method_7_code 8 = .ok (.lastore, 1) := by decide +kernel
theorem d_Law_slot_9 : decode method_7_code 9 = .ok (.goto 6, 3) := by decide +kernel
theorem d_Law_slot_15 : decode method_7_code 15 = .ok (.iconst 0, 1) := by decide +kernel
theorem d_Law_slot_16 : decode method_7_code 16 = .ok (.ireturn, 1) := by decide +kernel
theorem d_Law_slot_12 : decode method_7_code 12 = .ok (.astore_n 3, 1) := by decide +kernel
theorem d_Law_slot_13 : decode method_7_code 13 = .ok (.iconst 1, 1) := by decide +kernel
theorem d_Law_slot_14 : decode method_7_code 14 = .ok (.ireturn, 1) := by decide +kernel
set_option maxRecDepth 100000 in
set_option maxHeartbeats 4000000 in
theorem c_Law_slot {l : Launch} {dC : Nat → ClassId} {dI : Nat → Nat → Nat} {cI cZ cJ : ClassId} {x0 w : Nat} {sca rn : Int32} {r lv : Nat} {pl pf pa po pr ps pd ph pq wo wr : Nat} {fi la ov rg sl od rh sh : Nat → Int32} {sc : Int32} {mc mr mt mo sp cl2 np : Nat} {gr gs go : Nat → Int32} {nx : Int32} {i : Int32} {ou : Nat} {fo : Nat → Int64} (htr : l.stackTraces = false)  : sm_L l y_Law_slot method_7_code 4 [(0, 9, 12, 23)] (rmX 7 125) (dC, dI) smC [(cI, .int), (cZ, .boolean), (cJ, .long)] [.ref x0, .int i, .ref ou] [(ou, .inl (cJ, 1, .inr (.inl fo))), (x0, .inr (4, [.ref r, .ref lv, .ref pl, .ref mc, .int (nI w), .int sca, .int rn])), (pl, .inr (2, [.ref pf, .ref pa, .ref po, .ref pr, .ref ps, .ref pd, .ref ph, .ref pq, .int (nI wo), .int (nI wr), .int sc])), (pf, .inl (cI, 24, .inl fi)), (pa, .inl (cI, 24, .inl la)), (po, .inl (cZ, 24, .inl ov)), (pr, .inl (cI, 24, .inl rg)), (ps, .inl (cI, 24, .inl sl)), (pd, .inl (cI, 24, .inl od)), (ph, .inl (cI, 8, .inl rh)), (pq, .inl (cI, 24, .inl sh)), (mc, .inr (3, [.ref mr, .ref mt, .ref mo, .int nx, .int (nI sp), .int (nI cl2), .int (nI np)])), (mr, .inl (cI, 8, .inl gr)), (mt, .inl (cI, 24, .inl gs)), (mo, .inl (cI, 300, .inl go))] (fun q w2 => (∃ r9 w1, q = 0 ∧ (fun q w2 => (¬ rn = 0) ∧ (¬ i < 0) ∧ i < sc ∧ q = (mA gs 24 i) ∧ w2 = [(x0, .inr (4, [.ref r, .ref lv, .ref pl, .ref mc, .int (nI w), .int sca, .int rn])), (pl, .inr (2, [.ref pf, .ref pa, .ref po, .ref pr, .ref ps, .ref pd, .ref ph, .ref pq, .int (nI wo), .int (nI wr), .int sc])), (pf, .inl (cI, 24, .inl fi)), (pa, .inl (cI, 24, .inl la)), (po, .inl (cZ, 24, .inl ov)), (pr, .inl (cI, 24, .inl rg)), (ps, .inl (cI, 24, .inl sl)), (pd, .inl (cI, 24, .inl od)), (ph, .inl (cI, 8, .inl rh)), (pq, .inl (cI, 24, .inl sh)), (mc, .inr (3, [.ref mr, .ref mt, .ref mo, .int nx, .int (nI sp), .int (nI cl2), .int (nI np)])), (mr, .inl (cI, 8, .inl gr)), (mt, .inl (cI, 24, .inl gs)), (mo, .inl (cI, 300, .inl go))]) r9 w1 ∧ w2 = (ou, .inl (cJ, 1, .inr (.inl (vp_updL fo 0 r9.toInt64)))) :: w1) ∨ (∃ X, (fun X => X = "java/util/NoSuchElementException" ∧ ¬ (¬ rn = 0 ∧ ¬ i < 0 ∧ i < sc)) X ∧ q = 1 ∧ w2 = [(ou, .inl (cJ, 1, .inr (.inl fo))), (x0, .inr (4, [.ref r, .ref lv, .ref pl, .ref mc, .int (nI w), .int sca, .int rn])), (pl, .inr (2, [.ref pf, .ref pa, .ref po, .ref pr, .ref ps, .ref pd, .ref ph, .ref pq, .int (nI wo), .int (nI wr), .int sc])), (pf, .inl (cI, 24, .inl fi)), (pa, .inl (cI, 24, .inl la)), (po, .inl (cZ, 24, .inl ov)), (pr, .inl (cI, 24, .inl rg)), (ps, .inl (cI, 24, .inl sl)), (pd, .inl (cI, 24, .inl od)), (ph, .inl (cI, 8, .inl rh)), (pq, .inl (cI, 24, .inl sh)), (mc, .inr (3, [.ref mr, .ref mt, .ref mo, .int nx, .int (nI sp), .int (nI cl2), .int (nI np)])), (mr, .inl (cI, 8, .inl gr)), (mt, .inl (cI, 24, .inl gs)), (mo, .inl (cI, 300, .inl go))])) := by
  refine sm_L.mk (by decide) (Nat.le_of_ble_eq_true rfl) ?_
  intro p e s m below meth c A H locs ls hx hb hr ht hown hlocks hml hP hK hD hA hS hN hex hstr hSt hl
  have hl : lv_has ls 4 [(0, .ref x0), (1, .int i), (2, .ref ou)] := hl
  refine lv_aload_n hx hb d_Law_slot_0 rfl (lv_at hl 2 rfl) ?_
  refine lv_iconst (v := 0) hx hb d_Law_slot_1 (by decide) ?_
  refine lv_aload_n hx hb d_Law_slot_2 rfl (lv_at hl 0 rfl) ?_
  refine lv_iload_n hx hb d_Law_slot_3 rfl (lv_at hl 1 rfl) ?_
  refine sm_goX (wc := [(x0, .inr (4, [.ref r, .ref lv, .ref pl, .ref mc, .int (nI w), .int sca, .int rn])), (pl, .inr (2, [.ref pf, .ref pa, .ref po, .ref pr, .ref ps, .ref pd, .ref ph, .ref pq, .int (nI wo), .int (nI wr), .int sc])), (pf, .inl (cI, 24, .inl fi)), (pa, .inl (cI, 24, .inl la)), (po, .inl (cZ, 24, .inl ov)), (pr, .inl (cI, 24, .inl rg)), (ps, .inl (cI, 24, .inl sl)), (pd, .inl (cI, 24, .inl od)), (ph, .inl (cI, 8, .inl rh)), (pq, .inl (cI, 24, .inl sh)), (mc, .inr (3, [.ref mr, .ref mt, .ref mo, .int nx, .int (nI sp), .int (nI cl2), .int (nI np)])), (mr, .inl (cI, 8, .inl gr)), (mt, .inl (cI, 24, .inl gs)), (mo, .inl (cI, 300, .inl go))]) (wr := [(ou, .inl (cJ, 1, .inr (.inl fo)))]) (fun _ => 12) (sm_runX (As := [.int i]) (rest := [.int (0 : Int32), .ref ou]) ⟨hx, hb, hml, hown, ht⟩ (c_Mill_slot (l := l) (dC := dC) (dI := dI) (cI := cI) (cZ := cZ) (x0 := x0) (w := w) (sca := sca) (rn := rn) (r := r) (lv := lv) (pl := pl) (pf := pf) (pa := pa) (po := po) (pr := pr) (ps := ps) (pd := pd) (ph := ph) (pq := pq) (wo := wo) (wr := wr) (fi := fi) (la := la) (ov := ov) (rg := rg) (sl := sl) (od := od) (rh := rh) (sh := sh) (sc := sc) (mc := mc) (mr := mr) (mt := mt) (mo := mo) (sp := sp) (cl2 := cl2) (np := np) (gr := gr) (gs := gs) (go := go) (nx := nx) (i := i) htr  H.size) (sm_cVX 1 ht mw_579 mw_1 mw_576 mw_577 mw_578 rfl rfl (by decide +kernel) ⟨Nat.le_of_ble_eq_true rfl, Nat.le_of_ble_eq_true rfl⟩) (sm_preVX (ci := 4) hN hstr hSt hS hA hK [0, 1] rfl hP hD [1, 2, 3, 4, 5, 6, 7, 8, 9, 10, 11, 12, 13, 14] rfl rfl (by decide) 1 rfl rfl) rfl rfl hl.1 rfl (lv_room (Nat.le_of_ble_eq_true rfl)) d_Law_slot_4 ⟨Nat.le_of_ble_eq_true rfl, Nat.le_of_ble_eq_true rfl⟩) hP hD hS hA [1, 2, 3, 4, 5, 6, 7, 8, 9, 10, 11, 12, 13, 14] [0] rfl rfl (by decide) (by decide) ?_ ?_ ?_
  · intro X cX hpl hT hX
    obtain ⟨x, hL, h1, h2, h3, h4⟩ := sm_tab1 hex
    obtain ⟨rfl, -⟩ := hT
    refine ⟨sm_kX (ht _ mw_548) hX, ?_⟩
    rw [hL]
    have h9 := sm_hyes (x := x) (r := []) (pc := 4) hpl hown (by simp [covers, h1, h2]) (by rw [h4]; decide) (by rw [h4]; exact ht _ mw_542) hX
    rw [h3] at h9; exact h9
  · rintro v w1 H locs ⟨r9, rfl, hq⟩ hP hD hS
    refine lv_i2l hx hb d_Law_slot_7 rfl ?_
    refine va_last hx hb hK hP hD hS 0 2 rfl rfl (sm_inB (by decide)) d_Law_slot_8 (fun H locs hP hD hS => ?_)
    refine lv_goto (tgt := 15) hx hb d_Law_slot_9 (by decide) ?_
    refine lv_iconst (v := 0) hx hb d_Law_slot_15 (by decide) ?_
    exact sm_ri1 (ws := (ou, .inl (cJ, 1, .inr (.inl (vp_updL fo 0 r9.toInt64)))) :: w1) hx hb hr hlocks hK hP hD hS (Or.inl ⟨r9, w1, rfl, hq, rfl⟩) d_Law_slot_16
  · intro X a H locs hT hP hD hS
    refine lv_astore_n (lv' := [(3, .ref a), (0, .ref x0), (1, .int i), (2, .ref ou)]) hx hb d_Law_slot_12 rfl hl (by decide) rfl (fun ls hl => ?_)
    refine lv_iconst (v := 1) hx hb d_Law_slot_13 (by decide) ?_
    exact sm_ri1 (ws := [(ou, .inl (cJ, 1, .inr (.inl fo))), (x0, .inr (4, [.ref r, .ref lv, .ref pl, .ref mc, .int (nI w), .int sca, .int rn])), (pl, .inr (2, [.ref pf, .ref pa, .ref po, .ref pr, .ref ps, .ref pd, .ref ph, .ref pq, .int (nI wo), .int (nI wr), .int sc])), (pf, .inl (cI, 24, .inl fi)), (pa, .inl (cI, 24, .inl la)), (po, .inl (cZ, 24, .inl ov)), (pr, .inl (cI, 24, .inl rg)), (ps, .inl (cI, 24, .inl sl)), (pd, .inl (cI, 24, .inl od)), (ph, .inl (cI, 8, .inl rh)), (pq, .inl (cI, 24, .inl sh)), (mc, .inr (3, [.ref mr, .ref mt, .ref mo, .int nx, .int (nI sp), .int (nI cl2), .int (nI np)])), (mr, .inl (cI, 8, .inl gr)), (mt, .inl (cI, 24, .inl gs)), (mo, .inl (cI, 300, .inl go))]) hx hb hr hlocks hK hP hD hS (Or.inr ⟨_, hT, rfl, rfl⟩) d_Law_slot_14
abbrev y_Law_output : MethodName := ⟨"ScanMillLaw", "output", "(LScanMill;I[J)I"⟩
theorem mw_588 : Cond.code ⟨"ScanMill", "output", "(I)I"⟩ prog_1_method_13_code 2 (Option.some FieldType.int) ∈ wG := wG_t 588 (by decide +kernel) (by decide +kernel)
theorem mw_585 : Cond.methodLink "ScanMillLaw" 31 ⟨"ScanMill", "output", "(I)I"⟩ ∈ wG := wG_t 585 (by decide +kernel) (by decide +kernel)
theorem mw_586 : Cond.instanceMethod ⟨"ScanMill", "output", "(I)I"⟩ ∈ wG := wG_t 586 (by decide +kernel) (by decide +kernel)
theorem mw_587 : Cond.selects "ScanMill" ⟨"ScanMill", "output", "(I)I"⟩ ⟨"ScanMill", "output", "(I)I"⟩ ∈ wG := wG_t 587 (by decide +kernel) (by decide +kernel)
theorem d_Law_output_0 : decode method_8_code 0 = .ok (.aload_n 2, 1) := by decide +kernel
theorem d_Law_output_1 : decode method_8_code 1 = .ok (.iconst 0, 1) := by decide +kernel
theorem d_Law_output_2 : decode method_8_code 2 = .ok (.aload_n 0, 1) := by decide +kernel
theorem d_Law_output_3 : decode method_8_code 3 = .ok (.iload_n 1, 1) := by decide +kernel
theorem d_Law_output_4 : decode method_8_code 4 = .ok (.invokevirtual 31, 3) := by decide +kernel
theorem d_Law_output_7 : decode method_8_code 7 = .ok (.i2l, 1) := by decide +kernel
theorem d_Law_output_8 : decode method_8_code 8 = .ok (.lastore, 1) := by decide +kernel
theorem d_Law_output_9 : decode method_8_code 9 = .ok (.goto 6, 3) := by decide +kernel
theorem d_Law_output_15 : decode method_8_code 15 = .ok (.iconst 0, 1) := by decide +kernel
theorem d_Law_output_16 : decode method_8_code 16 = .ok (.ireturn, 1) := by decide +kernel
theorem d_Law_output_12 : decode method_8_code 12 = .ok (.astore_n 3, 1) := by decide +kernel
theorem d_Law_output_13 : decode method_8_code 13 = .ok (.iconst 1, 1) := by decide +kernel
theorem d_Law_output_14 : decode method_8_code 14 = .ok (.ireturn, 1) := by decide +kernel
set_option maxRecDepth 100000 in
set_option maxHeartbeats 4000000 in
theorem c_Law_output {l : Launch} {dC : Nat → ClassId} {dI : Nat → Nat → Nat} {cI cZ cJ : ClassId} {x0 w : Nat} {sca rn : Int32} {r lv pl : Nat} {mc mr mt mo sp cl2 np : Nat} {gr gs go : Nat → Int32} {nx : Int32} {k : Int32} {ou : Nat} {fo : Nat → Int64} (htr : l.stackTraces = false) (hnp : np ≤ 3000) : sm_L l y_Law_output method_8_code 4 [(0, 9, 12, 23)] (rmX 7 125) (dC, dI) smC [(cI, .int), (cZ, .boolean), (cJ, .long)] [.ref x0, .int k, .ref ou] [(ou, .inl (cJ, 1, .inr (.inl fo))), (x0, .inr (4, [.ref r, .ref lv, .ref pl, .ref mc, .int (nI w), .int sca, .int rn])), (mc, .inr (3, [.ref mr, .ref mt, .ref mo, .int nx, .int (nI sp), .int (nI cl2), .int (nI np)])), (mr, .inl (cI, 8, .inl gr)), (mt, .inl (cI, 24, .inl gs)), (mo, .inl (cI, 300, .inl go))] (fun q w2 => (∃ r9 w1, q = 0 ∧ (fun q w2 => (¬ rn = 0) ∧ inB k (min np 300) = true ∧ q = (kO go np k) ∧ w2 = [(x0, .inr (4, [.ref r, .ref lv, .ref pl, .ref mc, .int (nI w), .int sca, .int rn])), (mc, .inr (3, [.ref mr, .ref mt, .ref mo, .int nx, .int (nI sp), .int (nI cl2), .int (nI np)])), (mr, .inl (cI, 8, .inl gr)), (mt, .inl (cI, 24, .inl gs)), (mo, .inl (cI, 300, .inl go))]) r9 w1 ∧ w2 = (ou, .inl (cJ, 1, .inr (.inl (vp_updL fo 0 r9.toInt64)))) :: w1) ∨ (∃ X, (fun X => X = "java/util/NoSuchElementException" ∧ ¬ (¬ rn = 0 ∧ inB k (min np 300) = true)) X ∧ q = 1 ∧ w2 = [(ou, .inl (cJ, 1, .inr (.inl fo))), (x0, .inr (4, [.ref r, .ref lv, .ref pl, .ref mc, .int (nI w), .int sca, .int rn])), (mc, .inr (3, [.ref mr, .ref mt, .ref mo, .int nx, .int (nI sp), .int (nI cl2), .int (nI np)])), (mr, .inl (cI, 8, .inl gr)), (mt, .inl (cI, 24, .inl gs)), (mo, .inl (cI, 300, .inl go))])) := by
  refine sm_L.mk (by decide) (Nat.le_of_ble_eq_true rfl) ?_
  intro p e s m below meth c A H locs ls hx hb hr ht hown hlocks hml hP hK hD hA hS hN hex hstr hSt hl
  have hl : lv_has ls 4 [(0, .ref x0), (1, .int k), (2, .ref ou)] := hl
  refine lv_aload_n hx hb d_Law_output_0 rfl (lv_at hl 2 rfl) ?_
  refine lv_iconst (v := 0) hx hb d_Law_output_1 (by decide) ?_
  refine lv_aload_n hx hb d_Law_output_2 rfl (lv_at hl 0 rfl) ?_
  refine lv_iload_n hx hb d_Law_output_3 rfl (lv_at hl 1 rfl) ?_
  refine sm_goX (wc := [(x0, .inr (4, [.ref r, .ref lv, .ref pl, .ref mc, .int (nI w), .int sca, .int rn])), (mc, .inr (3, [.ref mr, .ref mt, .ref mo, .int nx, .int (nI sp), .int (nI cl2), .int (nI np)])), (mr, .inl (cI, 8, .inl gr)), (mt, .inl (cI, 24, .inl gs)), (mo, .inl (cI, 300, .inl go))]) (wr := [(ou, .inl (cJ, 1, .inr (.inl fo)))]) (fun _ => 12) (sm_runX (As := [.int k]) (rest := [.int (0 : Int32), .ref ou]) ⟨hx, hb, hml, hown, ht⟩ (c_Mill_output (l := l) (dC := dC) (dI := dI) (cI := cI) (cZ := cZ) (x0 := x0) (w := w) (sca := sca) (rn := rn) (r := r) (lv := lv) (pl := pl) (mc := mc) (mr := mr) (mt := mt) (mo := mo) (sp := sp) (cl2 := cl2) (np := np) (gr := gr) (gs := gs) (go := go) (nx := nx) (k := k) htr hnp H.size) (sm_cVX 1 ht mw_588 mw_1 mw_585 mw_586 mw_587 rfl rfl (by decide +kernel) ⟨Nat.le_of_ble_eq_true rfl, Nat.le_of_ble_eq_true rfl⟩) (sm_preVX (ci := 4) hN hstr hSt hS hA hK [0, 1] rfl hP hD [1, 2, 3, 4, 5] rfl rfl (by decide) 1 rfl rfl) rfl rfl hl.1 rfl (lv_room (Nat.le_of_ble_eq_true rfl)) d_Law_output_4 ⟨Nat.le_of_ble_eq_true rfl, Nat.le_of_ble_eq_true rfl⟩) hP hD hS hA [1, 2, 3, 4, 5] [0] rfl rfl (by decide) (by decide) ?_ ?_ ?_
  · intro X cX hpl hT hX
    obtain ⟨x, hL, h1, h2, h3, h4⟩ := sm_tab1 hex
    obtain ⟨rfl, -⟩ := hT
    refine ⟨sm_kX (ht _ mw_548) hX, ?_⟩
    rw [hL]
    have h9 := sm_hyes (x := x) (r := []) (pc := 4) hpl hown (by simp [covers, h1, h2]) (by rw [h4]; decide) (by rw [h4]; exact ht _ mw_542) hX
    rw [h3] at h9; exact h9
  · rintro v w1 H locs ⟨r9, rfl, hq⟩ hP hD hS
    refine lv_i2l hx hb d_Law_output_7 rfl ?_
    refine va_last hx hb hK hP hD hS 0 2 rfl rfl (sm_inB (by decide)) d_Law_output_8 (fun H locs hP hD hS => ?_)
    refine lv_goto (tgt := 15) hx hb d_Law_output_9 (by decide) ?_
    refine lv_iconst (v := 0) hx hb d_Law_output_15 (by decide) ?_
    exact sm_ri1 (ws := (ou, .inl (cJ, 1, .inr (.inl (vp_updL fo 0 r9.toInt64)))) :: w1) hx hb hr hlocks hK hP hD hS (Or.inl ⟨r9, w1, rfl, hq, rfl⟩) d_Law_output_16
  · intro X a H locs hT hP hD hS
    refine lv_astore_n (lv' := [(3, .ref a), (0, .ref x0), (1, .int k), (2, .ref ou)]) hx hb d_Law_output_12 rfl hl (by decide) rfl (fun ls hl => ?_)
    refine lv_iconst (v := 1) hx hb d_Law_output_13 (by decide) ?_
    exact sm_ri1 (ws := [(ou, .inl (cJ, 1, .inr (.inl fo))), (x0, .inr (4, [.ref r, .ref lv, .ref pl, .ref mc, .int (nI w), .int sca, .int rn])), (mc, .inr (3, [.ref mr, .ref mt, .ref mo, .int nx, .int (nI sp), .int (nI cl2), .int (nI np)])), (mr, .inl (cI, 8, .inl gr)), (mt, .inl (cI, 24, .inl gs)), (mo, .inl (cI, 300, .inl go))]) hx hb hr hlocks hK hP hD hS (Or.inr ⟨_, hT, rfl, rfl⟩) d_Law_output_14
