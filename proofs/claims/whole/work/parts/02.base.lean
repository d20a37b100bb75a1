/-! My own base: contracts over worlds as lists (a method that makes no cells), one row for entry, return, call. -/
/-- the words that stay, of all tables -/
def wG : List Cond := lw_tbl.filter goodWord
theorem wG_t {w : Cond} (i : Nat) (h : tables_1[i]? = some w) (g : goodWord w = true) : w ∈ wG := List.mem_filter.mpr ⟨List.mem_append_right _ (List.mem_of_getElem? h), g⟩
theorem wG_p {w : Cond} (i : Nat) (h : (k2_sels lw_privs)[i]? = some w) (g : goodWord w = true) : w ∈ wG := List.mem_filter.mpr ⟨List.mem_append_left _ (List.mem_of_getElem? h), g⟩
theorem wG_good {w : Cond} (h : w ∈ wG) : (w.onTables && w.keeps) = true ∨ ∃ ty, w = .arrayClass ty := good_of_word (List.mem_filter.mp h).2
theorem wG_GoodIn {w : Cond} (h : w ∈ wG) : GoodIn wG (w :: wG) := fun v hv => (List.mem_cons.mp hv).elim (fun e => by rw [e]; exact ⟨h, wG_good h⟩) (fun e => ⟨e, wG_good e⟩)
/-- the nest mates' links -/
def sm_N (U : State) : Prop := va_Nw (.methodLinkNest "ScanMill$Row" 40 ⟨"ScanMill", "isValue", "(I)Z"⟩ "ScanMill") U ∧ va_Nw (.methodLinkNest "ScanMill$Row" 43 ⟨"ScanMill", "isTarget", "(I)Z"⟩ "ScanMill") U ∧ va_Nw (.methodLinkNest "ScanMill$Liveness" 67 ⟨"ScanMill", "isValue", "(I)Z"⟩ "ScanMill") U ∧ va_Nw (.methodLinkNest "ScanMill$Places" 68 ⟨"ScanMill", "isValue", "(I)Z"⟩ "ScanMill") U
theorem sm_N.same {u U : State} (h : u.vm = U.vm) (hN : sm_N u) : sm_N U := ⟨hN.1.same rfl h, hN.2.1.same rfl h, hN.2.2.1.same rfl h, hN.2.2.2.same rfl h⟩
theorem sm_N.warm {s U : State} (hW : s.WarmedH U.vm) (hN : sm_N s) : sm_N U := ⟨va_Nw.warmM hW hN.1, va_Nw.warmM hW hN.2.1, va_Nw.warmM hW hN.2.2.1, va_Nw.warmM hW hN.2.2.2⟩
abbrev rmF (f lo : Nat) : Room := { frames := f, cells := 0, slots := 0, locals := lo }
abbrev sm_Pc (D : va_G) (cl : List vw_C) (tys : List (ClassId × FieldType)) (av : List Value) (ws : va_W) (sz : Nat) : Array Value → State → Prop :=
  va_Pc av (fun U => U.heap.size = sz ∧ va_P D cl ws U.heap ∧ va_K D cl tys U ∧ va_D (fun _ => True) ws ∧ sm_N U)
abbrev sm_B (D : va_G) (cl : List vw_C) (tys : List (ClassId × FieldType)) (A : Nat → Prop) (u : va_W) (t : State) : Prop := va_P D cl u t.heap ∧ va_K D cl tys t ∧ va_D A u
def sm_I (l : Launch) (y : MethodName) (cc : ByteArray) (maxL : Nat) (ret : Option FieldType) (rm : Room) (D : va_G) (cl : List vw_C) (tys : List (ClassId × FieldType)) (av : List Value) (ws : va_W) (post : Int32 → va_W → Prop) : Prop :=
  ∀ sz : Nat, Met l y (.code y cc maxL ret :: wG) rm (sm_Pc D cl tys av ws sz) (va_Qi post (sm_B D cl tys (va_A ws sz)) (va_A ws sz)) 0 0 (va_A ws sz)
def sm_V (l : Launch) (y : MethodName) (cc : ByteArray) (maxL : Nat) (ret : Option FieldType) (rm : Room) (D : va_G) (cl : List vw_C) (tys : List (ClassId × FieldType)) (av : List Value) (ws : va_W) (post : va_W → Prop) : Prop :=
  ∀ sz : Nat, Met l y (.code y cc maxL ret :: wG) rm (sm_Pc D cl tys av ws sz) (va_Qv post (sm_B D cl tys (va_A ws sz)) (va_A ws sz)) 0 0 (va_A ws sz)
theorem sm_I.at {l : Launch} {y : MethodName} {cc : ByteArray} {maxL : Nat} {ret : Option FieldType} {rm : Room} {D : va_G} {cl : List vw_C} {tys : List (ClassId × FieldType)} {av : List Value} {ws : va_W} {post : Int32 → va_W → Prop} (h : sm_I l y cc maxL ret rm D cl tys av ws post) (sz : Nat) : Met l y (.code y cc maxL ret :: wG) rm (sm_Pc D cl tys av ws sz) (va_Qi post (sm_B D cl tys (va_A ws sz)) (va_A ws sz)) 0 0 (va_A ws sz) := h sz
theorem sm_I.mk {l : Launch} {y : MethodName} {rm : Room} {D : va_G} {cl : List vw_C} {tys : List (ClassId × FieldType)} {av : List Value} {ws : va_W} {post : Int32 → va_W → Prop} {cc : ByteArray} {maxL : Nat} {ret : Option FieldType}
    (hy : plainName y.cls = true) (hlen : (lg_sl av).length ≤ maxL)
    (body : ∀ (p : Program) (e : Env) (s : State) (m : MethodId) (below : List Frame) (meth : Method) (c : Code) (A : Nat → Prop) (H : Heap) (locs : List Loc) (ls : Array Slot), p.tables.exec = Jvm.exec → c.code = cc → meth.sig.returnType = ret → (∀ x ∈ wG, x.before av.toArray s = true) → s.vm.findClass y.cls = some m.cls → meth.locks = false → c.maxLocals = maxL → meth.name = y.name → va_P D cl ws H → va_K D cl tys s → va_D A ws → (∀ q, s.heap.size ≤ q → A q) → va_S A s.heap H locs → sm_N s → lv_has ls maxL (lv_args 0 av) → W p l e rm s m av.toArray below meth c H locs 0 0 (MQ below (va_Qi post (sm_B D cl tys A) A) av.toArray s 0 0 A) (F0 m 0 ls [])) : sm_I l y cc maxL ret rm D cl tys av ws post := by
  intro sz
  refine Met.ofW (cc := cc) (maxL := maxL) (ret := ret) hy rfl ?_
  intro p e s m args below meth c s₁ B hml hv
  obtain ⟨rfl, hsz, hP, hK, hD0, hN⟩ := hv
  subst hsz
  have hl := lv_entry av (n := maxL) hlen
  rw [lg_entry_eq]
  exact body p e s m below meth c (va_A ws s.heap.size) s.heap [] _ B.exec B.bytes B.returns (fun x hx => atoms_spec (ws := .code y cc maxL ret :: wG) B.pre x (List.mem_cons_of_mem _ hx)) (findClass_of_methodNamed B.named) B.notSynchronized hml (name_of_methodNamed B.named B.method).1 hP hK (hD0.self (sz := s.heap.size)) (fun q h => Or.inr h) va_S.rf hN hl
theorem sm_V.at {l : Launch} {y : MethodName} {cc : ByteArray} {maxL : Nat} {ret : Option FieldType} {rm : Room} {D : va_G} {cl : List vw_C} {tys : List (ClassId × FieldType)} {av : List Value} {ws : va_W} {post : va_W → Prop} (h : sm_V l y cc maxL ret rm D cl tys av ws post) (sz : Nat) : Met l y (.code y cc maxL ret :: wG) rm (sm_Pc D cl tys av ws sz) (va_Qv post (sm_B D cl tys (va_A ws sz)) (va_A ws sz)) 0 0 (va_A ws sz) := h sz
theorem sm_V.mk {l : Launch} {y : MethodName} {rm : Room} {D : va_G} {cl : List vw_C} {tys : List (ClassId × FieldType)} {av : List Value} {ws : va_W} {post : va_W → Prop} {cc : ByteArray} {maxL : Nat} {ret : Option FieldType}
    (hy : plainName y.cls = true) (hlen : (lg_sl av).length ≤ maxL)
    (body : ∀ (p : Program) (e : Env) (s : State) (m : MethodId) (below : List Frame) (meth : Method) (c : Code) (A : Nat → Prop) (H : Heap) (locs : List Loc) (ls : Array Slot), p.tables.exec = Jvm.exec → c.code = cc → meth.sig.returnType = ret → (∀ x ∈ wG, x.before av.toArray s = true) → s.vm.findClass y.cls = some m.cls → meth.locks = false → c.maxLocals = maxL → meth.name = y.name → va_P D cl ws H → va_K D cl tys s → va_D A ws → (∀ q, s.heap.size ≤ q → A q) → va_S A s.heap H locs → sm_N s → lv_has ls maxL (lv_args 0 av) → W p l e rm s m av.toArray below meth c H locs 0 0 (MQ below (va_Qv post (sm_B D cl tys A) A) av.toArray s 0 0 A) (F0 m 0 ls [])) : sm_V l y cc maxL ret rm D cl tys av ws post := by
  intro sz
  refine Met.ofW (cc := cc) (maxL := maxL) (ret := ret) hy rfl ?_
  intro p e s m args below meth c s₁ B hml hv
  obtain ⟨rfl, hsz, hP, hK, hD0, hN⟩ := hv
  subst hsz
  have hl := lv_entry av (n := maxL) hlen
  rw [lg_entry_eq]
  exact body p e s m below meth c (va_A ws s.heap.size) s.heap [] _ B.exec B.bytes B.returns (fun x hx => atoms_spec (ws := .code y cc maxL ret :: wG) B.pre x (List.mem_cons_of_mem _ hx)) (findClass_of_methodNamed B.named) B.notSynchronized hml (name_of_methodNamed B.named B.method).1 hP hK (hD0.self (sz := s.heap.size)) (fun q h => Or.inr h) va_S.rf hN hl
theorem sm_blind {D : va_G} {cl : List vw_C} {tys : List (ClassId × FieldType)} {av : List Value} {ws : va_W} {sz : Nat} : FrameBlind (sm_Pc D cl tys av ws sz) := fun a U g mk q => by
  obtain ⟨q0, q1, qP, qK, qD, qN⟩ := q
  exact ⟨q0, q1, qP, va_K.moved (u := U) (U := U.calling g mk a) (Vm.Alike.refl U.vm) qK, qD, qN.same (u := U) (U := U.calling g mk a) rfl⟩
theorem sm_preS {s : State} {H : Heap} {D : va_G} {cl : List vw_C} {tys : List (ClassId × FieldType)} {A : Nat → Prop} {av : List Value} {ws wc : va_W} (hN : sm_N s) (hK : va_K D cl tys s) (hP : va_P D cl ws H) (hD : va_D A ws) (isC : List Nat) (hf : isC.filterMap (fun i => ws[i]?) = wc) (hC : isC.map (fun i => ws[i]?) = wc.map some) (hn : va_nd isC = true) : PreS s H (sm_Pc D cl tys av wc H.size) av :=
  ⟨sm_blind, fun U hU hW => ⟨rfl, by rw [hU], by rw [hU]; exact hP.sub isC hf, va_K.moved hW.alike hK, (hD.sub isC hn hC).weaken (fun _ _ _ _ => trivial), hN.warm hW⟩⟩
theorem sm_preV {s : State} {H : Heap} {D : va_G} {cl : List vw_C} {tys : List (ClassId × FieldType)} {A : Nat → Prop} {As : List Value} {ws wc : va_W} {b ci : Nat} {q : vw_C} {fs : List Value} (hN : sm_N s) (hK : va_K D cl tys s) (hP : va_P D cl ws H) (hD : va_D A ws) (isC : List Nat) (hf : isC.filterMap (fun i => ws[i]?) = wc) (hC : isC.map (fun i => ws[i]?) = wc.map some) (hn : va_nd isC = true) (q0 : Nat) (hc : cl[ci]? = some q) (he : ws[q0]? = some (b, .inr (ci, fs))) : PreV s H q.1 b (sm_Pc D cl tys (.ref b :: As) wc H.size) As :=
  ⟨sm_blind, va_recv hK hP hc he, fun U hU hW => ⟨rfl, by rw [hU], by rw [hU]; exact hP.sub isC hf, va_K.moved hW.alike hK, (hD.sub isC hn hC).weaken (fun _ _ _ _ => trivial), hN.warm hW⟩⟩
theorem sm_cB {R : Room} {s : State} {args : Array Value} {own : String} {index maxL : Nat} {y : MethodName} {bytes : ByteArray} {ret : Option FieldType} {rm : Room} (n : Nat) (ht : ∀ w ∈ wG, w.before args s = true) (hc : Cond.code y bytes maxL ret ∈ wG) (hini : Cond.initialized y.cls ∈ wG) (hl : Cond.methodLink own index y ∈ wG) (hrc : rm.cells = 0) (hrs : rm.slots = 0)
    (hd : y.cls ≠ "java/lang/invoke/MethodHandle" ∧ y.cls ≠ "java/lang/invoke/VarHandle" ∧ (parseMethodDescriptor y.desc).map (fun d => d.parameters.length) = some n) (hR : rm.frames + 1 ≤ R.frames ∧ 8 + (maxL + 11) + rm.locals ≤ R.locals) : CallB R s args own index y bytes maxL ret (.code y bytes maxL ret :: wG) rm 0 0 n :=
  callB_of n ht (wG_GoodIn hc) rfl hrc hrs (ht _ hini) (ht _ hl) hd hR
theorem sm_cV {R : Room} {s : State} {args : Array Value} {own C : String} {index maxL : Nat} {y : MethodName} {bytes : ByteArray} {ret : Option FieldType} {rm : Room} (n : Nat) (ht : ∀ w ∈ wG, w.before args s = true) (hc : Cond.code y bytes maxL ret ∈ wG) (hini : Cond.initialized y.cls ∈ wG) (hl : Cond.methodLink own index y ∈ wG) (hin : Cond.instanceMethod y ∈ wG) (hse : Cond.selects C y y ∈ wG) (hrc : rm.cells = 0) (hrs : rm.slots = 0)
    (hd : y.cls ≠ "java/lang/invoke/MethodHandle" ∧ y.cls ≠ "java/lang/invoke/VarHandle" ∧ (parseMethodDescriptor y.desc).map (fun d => d.parameters.length) = some n) (hR : rm.frames + 1 ≤ R.frames ∧ 8 + (maxL + 11) + rm.locals ≤ R.locals) : CallW R s args own C index y bytes maxL ret (.code y bytes maxL ret :: wG) rm 0 0 n :=
  ⟨sm_cB n ht hc hini hl hrc hrs hd hR, ht _ hin, ht _ hse⟩
theorem sm_cS {R : Room} {s : State} {args : Array Value} {own : String} {index maxL : Nat} {y : MethodName} {bytes : ByteArray} {ret : Option FieldType} {rm : Room} (n : Nat) (ht : ∀ w ∈ wG, w.before args s = true) (hc : Cond.code y bytes maxL ret ∈ wG) (hini : Cond.initialized y.cls ∈ wG) (hl : Cond.methodLink own index y ∈ wG) (hst : Cond.static y ∈ wG) (hrc : rm.cells = 0) (hrs : rm.slots = 0)
    (hd : y.cls ≠ "java/lang/invoke/MethodHandle" ∧ y.cls ≠ "java/lang/invoke/VarHandle" ∧ (parseMethodDescriptor y.desc).map (fun d => d.parameters.length) = some n) (hR : rm.frames + 1 ≤ R.frames ∧ 8 + (maxL + 11) + rm.locals ≤ R.locals) : CallB R s args own index y bytes maxL ret (.code y bytes maxL ret :: wG) rm 0 0 n ∧ (Cond.static y).before args s = true :=
  ⟨sm_cB n ht hc hini hl hrc hrs hd hR, ht _ hst⟩
theorem sm_cN {R : Room} {s : State} {args : Array Value} {own host : String} {index maxL : Nat} {y : MethodName} {bytes : ByteArray} {ret : Option FieldType} {rm : Room} (n : Nat) (ht : ∀ w ∈ wG, w.before args s = true) (hc : Cond.code y bytes maxL ret ∈ wG) (hini : Cond.initialized y.cls ∈ wG) (hl : va_Nw (.methodLinkNest own index y host) s) (hst : Cond.static y ∈ wG) (hrc : rm.cells = 0) (hrs : rm.slots = 0)
    (hd : y.cls ≠ "java/lang/invoke/MethodHandle" ∧ y.cls ≠ "java/lang/invoke/VarHandle" ∧ (parseMethodDescriptor y.desc).map (fun d => d.parameters.length) = some n) (hR : rm.frames + 1 ≤ R.frames ∧ 8 + (maxL + 11) + rm.locals ≤ R.locals) : va_CN R s args own index y host bytes maxL ret (.code y bytes maxL ret :: wG) rm 0 0 n ∧ (Cond.static y).before args s = true ∧ True :=
  ⟨va_cnB n ht (wG_GoodIn hc) rfl hrc hrs hl (ht _ hini) hd hR, ht _ hst, trivial⟩
section SMB
variable {p : Program} {l : Launch} {e : Env} {R : Room} {s : State} {m : MethodId} {args : Array Value} {below : List Frame} {meth : Method} {c : Code} {H : Heap} {locs : List Loc} {cells slots : Nat} {Q : State → Prop}
variable {cc : ByteArray} {pc : Nat} {ls : Array Slot} {rest st0 : List Value} {D : va_G} {cl : List vw_C} {A : Nat → Prop} {a : Nat} {tys : List (ClassId × FieldType)} {ws wc wr : va_W} {H0 : Heap} {av : Array Value}
theorem sm_re {x y : Int32} (h : x = y) (k : W p l e R s m args below meth c H locs cells slots Q (F0 m pc ls (.int y :: rest))) : W p l e R s m args below meth c H locs cells slots Q (F0 m pc ls (.int x :: rest)) := by rw [h]; exact k
theorem sm_goi {post : Int32 → va_W → Prop} (hr : va_Run p l e R s m args below meth c H locs cells slots 0 0 (F0 m pc ls st0) rest (va_Qi post (sm_B D cl tys (va_A wc H.size)) (va_A wc H.size) av) (va_A wc H.size)) (hP : va_P D cl ws H) (hD : va_D A ws) (hS : va_S A s.heap H locs) (hA : ∀ q, s.heap.size ≤ q → A q) (isC isR : List Nat) (hC : isC.map (fun i => ws[i]?) = wc.map some) (hR : isR.map (fun i => ws[i]?) = wr.map some) (hn : va_nd isR = true) (hdis : ∀ i ∈ isR, i ∉ isC)
    (kk : ∀ (r : Int32) (w1 : va_W) (H1 : Heap) (locs1 : List Loc), post r w1 → va_P D cl (wr ++ w1) H1 → va_D A (wr ++ w1) → va_S A s.heap H1 locs1 → W p l e R s m args below meth c H1 locs1 cells slots Q (F0 m (pc + 3) ls (.int r :: rest))) : W p l e R s m args below meth c H locs cells slots Q (F0 m pc ls st0) := by
  have hFc := va_free (wc := wc) hD hS hA isC hC
  refine va_calli hr hS (fun q _ h => hFc q h) hFc (fun r u t H1 locs1 ht hvm hw hB hz1 hk1 hS1 => ?_)
  obtain ⟨hP1, hK1, hD1⟩ := hB
  rw [ht] at hP1
  obtain ⟨hP2, hD2⟩ := va_join (wr := wr) (w1 := u) hP hD isC isR hC hR hn hdis hk1 hFc hP1 hD1
  exact kk r u H1 locs1 hw hP2 hD2 hS1
theorem sm_gov {post : va_W → Prop} (hr : va_Run p l e R s m args below meth c H locs cells slots 0 0 (F0 m pc ls st0) rest (va_Qv post (sm_B D cl tys (va_A wc H.size)) (va_A wc H.size) av) (va_A wc H.size)) (hP : va_P D cl ws H) (hD : va_D A ws) (hS : va_S A s.heap H locs) (hA : ∀ q, s.heap.size ≤ q → A q) (isC isR : List Nat) (hC : isC.map (fun i => ws[i]?) = wc.map some) (hR : isR.map (fun i => ws[i]?) = wr.map some) (hn : va_nd isR = true) (hdis : ∀ i ∈ isR, i ∉ isC)
    (kk : ∀ (w1 : va_W) (H1 : Heap) (locs1 : List Loc), post w1 → va_P D cl (wr ++ w1) H1 → va_D A (wr ++ w1) → va_S A s.heap H1 locs1 → W p l e R s m args below meth c H1 locs1 cells slots Q (F0 m (pc + 3) ls rest)) : W p l e R s m args below meth c H locs cells slots Q (F0 m pc ls st0) := by
  have hFc := va_free (wc := wc) hD hS hA isC hC
  refine va_callv hr hS (fun q _ h => hFc q h) hFc (fun u t H1 locs1 ht hvm hw hB hz1 hk1 hS1 => ?_)
  obtain ⟨hP1, hK1, hD1⟩ := hB
  rw [ht] at hP1
  obtain ⟨hP2, hD2⟩ := va_join (wr := wr) (w1 := u) hP hD isC isR hC hR hn hdis hk1 hFc hP1 hD1
  exact kk u H1 locs1 hw hP2 hD2 hS1
theorem sm_ri {post : Int32 → va_W → Prop} {v : Int32} (hexec : p.tables.exec = Jvm.exec) (hb : c.code = cc) (hr : meth.sig.returnType = some .int) (hlocks : meth.locks = false) (hK : va_K D cl tys s) (hP : va_P D cl ws H) (hD : va_D A ws) (hS : va_S A s.heap H locs) (hpost : post v ws) (hdg : decode cc pc = .ok (.ireturn, 1)) :
    W p l e R s m args below meth c H locs 0 0 (MQ below (va_Qi post (sm_B D cl tys A) A) args s 0 0 A) (F0 m pc ls [.int v]) :=
  W.iret hexec hb hr (fun t ht hW => ⟨⟨v, ws, rfl, hpost, by rw [ht]; exact hP, va_K.moved hW.alike hK, hD⟩, hS.F ht⟩) hS.2.2 hdg (hlocks := hlocks)
theorem sm_rz {post : Int32 → va_W → Prop} {v : Int32} (hexec : p.tables.exec = Jvm.exec) (hb : c.code = cc) (hr : meth.sig.returnType = some .boolean) (hlocks : meth.locks = false) (hK : va_K D cl tys s) (hP : va_P D cl ws H) (hD : va_D A ws) (hS : va_S A s.heap H locs) (h01 : v = 0 ∨ v = 1) (hpost : post v ws) (hdg : decode cc pc = .ok (.ireturn, 1)) :
    W p l e R s m args below meth c H locs 0 0 (MQ below (va_Qi post (sm_B D cl tys A) A) args s 0 0 A) (F0 m pc ls [.int v]) :=
  W.zret (ty := .boolean) hexec hb hr (by rcases h01 with h | h <;> subst h <;> rfl) (fun t ht hW => ⟨⟨v, ws, rfl, hpost, by rw [ht]; exact hP, va_K.moved hW.alike hK, hD⟩, hS.F ht⟩) hS.2.2 hdg (hlocks := hlocks)
theorem sm_rv {post : va_W → Prop} (hexec : p.tables.exec = Jvm.exec) (hb : c.code = cc) (hr : meth.sig.returnType = none) (hlocks : meth.locks = false) (hK : va_K D cl tys s) (hP : va_P D cl ws H) (hD : va_D A ws) (hS : va_S A s.heap H locs) (hpost : post ws) (hdg : decode cc pc = .ok (.return_, 1)) :
    W p l e R s m args below meth c H locs 0 0 (MQ below (va_Qv post (sm_B D cl tys A) A) args s 0 0 A) (F0 m pc ls []) :=
  W.vret hexec hb hr (fun t ht hW => ⟨⟨ws, rfl, hpost, by rw [ht]; exact hP, va_K.moved hW.alike hK, hD⟩, hS.F ht⟩) hS.2.2 hdg (hlocks := hlocks)
theorem sm_iald (hexec : p.tables.exec = Jvm.exec) (hb : c.code = cc) (hK : va_K D cl tys s) (hP : va_P D cl ws H) (q0 t0 : Nat) {cA : ClassId} {n : Nat} {f : Nat → Int32} (ha : ws[q0]? = some (a, .inl (cA, n, .inl f))) (ht : tys[t0]? = some (cA, .int)) {i : Int32} {j : Nat} (hin : vp_in i n) (hj : i.toNatClampNeg = j) (hdg : decode cc pc = .ok (.iaload, 1))
    (kk : W p l e R s m args below meth c H locs cells slots Q (F0 m (pc + 1) ls (.int (f j) :: rest))) : W p l e R s m args below meth c H locs cells slots Q (F0 m pc ls (.int i :: .ref a :: rest)) :=
  va_iald hexec hb hK hP q0 t0 ha ht hin hdg (by rw [hj]; exact kk)
theorem sm_zald (hexec : p.tables.exec = Jvm.exec) (hb : c.code = cc) (hK : va_K D cl tys s) (hP : va_P D cl ws H) (q0 t0 : Nat) {cA : ClassId} {n : Nat} {f : Nat → Int32} (ha : ws[q0]? = some (a, .inl (cA, n, .inl f))) (ht : tys[t0]? = some (cA, .boolean)) {i : Int32} {j : Nat} (hin : vp_in i n) (hj : i.toNatClampNeg = j) (hdg : decode cc pc = .ok (.baload, 1))
    (kk : W p l e R s m args below meth c H locs cells slots Q (F0 m (pc + 1) ls (.int (f j) :: rest))) : W p l e R s m args below meth c H locs cells slots Q (F0 m pc ls (.int i :: .ref a :: rest)) :=
  va_zald hexec hb hK hP q0 t0 ha ht hin hdg (by rw [hj]; exact kk)
theorem sm_iast (hexec : p.tables.exec = Jvm.exec) (hb : c.code = cc) (hK : va_K D cl tys s) (hP : va_P D cl ws H) (hD : va_D A ws) (hS : va_S A H0 H locs) (q0 t0 : Nat) {cA : ClassId} {n : Nat} {f : Nat → Int32} (ha : ws[q0]? = some (a, .inl (cA, n, .inl f))) (ht : tys[t0]? = some (cA, .int)) {i x : Int32} {j : Nat} (hin : vp_in i n) (hj : i.toNatClampNeg = j) (hdg : decode cc pc = .ok (.iastore, 1))
    (kk : ∀ (H1 : Heap) (locs1 : List Loc), va_P D cl (ws.set q0 (a, .inl (cA, n, .inl (upd f j x)))) H1 → va_D A (ws.set q0 (a, .inl (cA, n, .inl (upd f j x)))) → va_S A H0 H1 locs1 → W p l e R s m args below meth c H1 locs1 cells slots Q (F0 m (pc + 1) ls rest)) : W p l e R s m args below meth c H locs cells slots Q (F0 m pc ls (.int x :: .int i :: .ref a :: rest)) :=
  va_iast hexec hb hK hP hD hS q0 t0 ha ht hin hdg (by rw [hj]; exact kk)
theorem sm_nz {x : Int32} (h : x = 0 ∨ x = 1) : vp_nar .boolean x = x := by
  rcases h with h | h <;> subst h <;> decide
theorem sm_zast (hexec : p.tables.exec = Jvm.exec) (hb : c.code = cc) (hK : va_K D cl tys s) (hP : va_P D cl ws H) (hD : va_D A ws) (hS : va_S A H0 H locs) (q0 t0 : Nat) {cA : ClassId} {n : Nat} {f : Nat → Int32} (ha : ws[q0]? = some (a, .inl (cA, n, .inl f))) (ht : tys[t0]? = some (cA, .boolean)) {i x : Int32} {j : Nat} (hin : vp_in i n) (hj : i.toNatClampNeg = j) (h01 : x = 0 ∨ x = 1) (hdg : decode cc pc = .ok (.bastore, 1))
    (kk : ∀ (H1 : Heap) (locs1 : List Loc), va_P D cl (ws.set q0 (a, .inl (cA, n, .inl (upd f j x)))) H1 → va_D A (ws.set q0 (a, .inl (cA, n, .inl (upd f j x)))) → va_S A H0 H1 locs1 → W p l e R s m args below meth c H1 locs1 cells slots Q (F0 m (pc + 1) ls rest)) : W p l e R s m args below meth c H locs cells slots Q (F0 m pc ls (.int x :: .int i :: .ref a :: rest)) :=
  va_zast hexec hb hK hP hD hS q0 t0 ha ht hin hdg (by rw [hj, sm_nz h01]; exact kk)
/-- where a tableswitch goes -/
def sm_tabT (pc : Nat) (dflt lo hi : Int) (offs : Array Int) (x : Int32) : Option Int := if x.toInt < lo ∨ hi < x.toInt then some ((pc : Int) + dflt) else (offs[(x.toInt - lo).toNat]?).map (fun o => (pc : Int) + o)
theorem sm_tab (hexec : p.tables.exec = Jvm.exec) (hb : c.code = cc) {dflt lo hi : Int} {offs : Array Int} {len : Nat} {x : Int32} {tgt : Nat} (hdg : decode cc pc = .ok (.tableswitch dflt lo hi offs, len)) (h : sm_tabT pc dflt lo hi offs x = some (tgt : Int))
    (k : W p l e R s m args below meth c H locs cells slots Q (F0 m tgt ls rest)) : W p l e R s m args below meth c H locs cells slots Q (F0 m pc ls (.int x :: rest)) := by
  unfold sm_tabT at h
  by_cases g : x.toInt < lo ∨ hi < x.toInt
  · rw [if_pos g] at h
    exact lv_tableOut hexec hb hdg g (Option.some.inj h) k
  · rw [if_neg g] at h
    cases ho : offs[(x.toInt - lo).toNat]? with
    | none => rw [ho] at h; cases h
    | some o =>
      rw [ho] at h
      exact lv_tableIn hexec hb hdg (fun z => g (Or.inl z)) (fun z => g (Or.inr z)) ho (Option.some.inj h) k
end SMB
def sm_nk (x : Int32) : List Int32 → Prop
  | [] => True
  | k :: ks => x ≠ k ∧ sm_nk x ks
theorem sm_nk_mem {x : Int32} : ∀ {ks : List Int32}, sm_nk x ks → ∀ k ∈ ks, x ≠ k
  | [], _, _, h => by cases h
  | k :: ks, h, k', h' => by
    rcases List.mem_cons.mp h' with e | e
    · rw [e]; exact h.1
    · exact sm_nk_mem h.2 k' e
theorem sm_tabD {pc : Nat} {dflt lo hi : Int} {offs : Array Int} {x : Int32} {tgt : Nat} (keys : List Int32) (hx : sm_nk x keys) (hall : ∀ i ∈ List.range (hi - lo + 1).toNat, (lo + (i : Int)) ∈ keys.map (fun k => k.toInt) ∨ offs[i]? = some dflt) (ht : (pc : Int) + dflt = (tgt : Int)) : sm_tabT pc dflt lo hi offs x = some (tgt : Int) := by
  unfold sm_tabT
  by_cases g : x.toInt < lo ∨ hi < x.toInt
  · rw [if_pos g, ht]
  · rw [if_neg g]
    have g1 : ¬ x.toInt < lo := fun z => g (Or.inl z)
    have g2 : ¬ hi < x.toInt := fun z => g (Or.inr z)
    rcases hall (x.toInt - lo).toNat (List.mem_range.mpr (by omega)) with q | q
    · obtain ⟨k, hk, e⟩ := List.mem_map.mp q
      have e2 : k.toInt = x.toInt := by
        have : ((x.toInt - lo).toNat : Int) = x.toInt - lo := Int.toNat_of_nonneg (by omega)
        rw [e, this]; omega
      exact absurd (Int32.toInt_inj.mp e2).symm (sm_nk_mem hx k hk)
    · rw [q]; simp only [Option.map_some, ht]
/-- a Bool as the machine has it -/
def b2i (b : Bool) : Int32 := if b then 1 else 0
theorem b2i_01 (b : Bool) : b2i b = 0 ∨ b2i b = 1 := by cases b <;> decide
theorem b2i_t : b2i true = 1 := rfl
theorem b2i_f : b2i false = 0 := rfl
theorem b2i_eq0 {b : Bool} (h : b2i b = 0) : b = false := by cases b <;> first | rfl | exact absurd h (by decide)
theorem b2i_ne0 {b : Bool} (h : ¬ b2i b = 0) : b = true := by cases b <;> first | rfl | exact absurd rfl h
/-- in range, as a Bool -/
def inB (x : Int32) (n : Nat) : Bool := decide (0 ≤ x.toInt ∧ x.toInt < (n : Int))
theorem sm_inB {x : Int32} {n : Nat} (h : inB x n = true) : vp_in x n := vp_in_iff.mpr (of_decide_eq_true h)
theorem inB_of {x : Int32} {n : Nat} (h : vp_in x n) : inB x n = true := decide_eq_true (vp_in_iff.mp h)
theorem inB_mono {x : Int32} {n k : Nat} (h : inB x n = true) (hk : n ≤ k) : inB x k = true := by
  have := of_decide_eq_true h
  exact decide_eq_true (by omega)
theorem inB_nI {i n : Nat} (hi : i < 2 ^ 31) : inB (nI i) n = decide (i < n) := by
  unfold inB; rw [nI_toInt hi]; congr 1; simp only [eq_iff_iff]; omega
theorem inB_j {x : Int32} {n : Nat} (h : inB x n = true) (hn : n ≤ 1000) : ∃ j, j < n ∧ x = nI j := vp_in_of (sm_inB h) (by omega)
theorem in_ge {v M : Int32} {n : Nat} (hM : M.toInt = (n : Int)) (h0 : ¬ v < 0) (h1 : ¬ M ≤ v) : inB v n = true := by
  rw [Int32.lt_iff_toInt_lt, Int32.toInt_zero] at h0
  rw [Int32.le_iff_toInt_le] at h1
  exact decide_eq_true (by omega)
theorem in_lo {v : Int32} {n : Nat} (h : v < 0) : inB v n = false := by
  rw [Int32.lt_iff_toInt_lt, Int32.toInt_zero] at h
  exact decide_eq_false (by omega)
theorem in_hi {v M : Int32} {n : Nat} (hM : M.toInt = (n : Int)) (h : M ≤ v) : inB v n = false := by
  rw [Int32.le_iff_toInt_le] at h
  exact decide_eq_false (by omega)
theorem in_gt {v M : Int32} {n : Nat} (hM : M.toInt + 1 = (n : Int)) (h0 : ¬ v < 0) (h1 : ¬ M < v) : inB v n = true := by
  rw [Int32.lt_iff_toInt_lt, Int32.toInt_zero] at h0
  rw [Int32.lt_iff_toInt_lt] at h1
  exact decide_eq_true (by omega)
theorem in_hg {v M : Int32} {n : Nat} (hM : M.toInt + 1 = (n : Int)) (h : M < v) : inB v n = false := by
  rw [Int32.lt_iff_toInt_lt] at h
  exact decide_eq_false (by omega)
theorem sm_dec (x : Int32) : x + Int32.ofInt (-1) = x - 1 := by
  rw [Int32.sub_eq_add_neg]; rfl
theorem sm_pred {j : Nat} (h : ¬ nI j - 1 < 0) : ∃ i, j = i + 1 := by
  cases j with
  | zero => exact absurd (by decide) h
  | succ i => exact ⟨i, rfl⟩
theorem sm_pred0 {j : Nat} (hj : j < 2 ^ 31) (h : nI j - 1 < 0) : j = 0 := by
  cases j with
  | zero => rfl
  | succ i => rw [nI_pred] at h; exact absurd h (nI_pos (by omega))
theorem sm_nb {x : Int32} (h : x = 0 ∨ x = 1) : narrow .boolean (.int x) = .int x := by rcases h with h | h <;> subst h <;> rfl
