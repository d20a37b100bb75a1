/-! Methods that may throw: their contract, the throw's row, the call's row, the handler's. -/
/-- a static that holds a reference or null, with what the tables say of it; its cell is not in A -/
def sm_LS (C n d : String) (A : Nat → Prop) (U : State) (H : Heap) : Prop := ∃ (c : ClassId) (k : Class) (i : Nat) (f : Field) (a : Nat) (cell : Cell), U.vm.findClass C = some c ∧ U.fieldFound? C n d = some (c, k, i, f) ∧ f.isStatic = true ∧ k.statics = some a ∧ H[a]? = some cell ∧ cell.vm.isStatics = true ∧ cell.cls = c ∧ f.slot < cell.slots.size ∧ k.staticTypes[f.slot]? = some f.type ∧ (cell.slots[f.slot]? = some .null ∨ ∃ t, cell.slots[f.slot]? = some (.ref t)) ∧ ¬ A a
theorem sm_LS.moved {C n d : String} {A : Nat → Prop} {u U : State} {H : Heap} (hvm : u.vm.Alike U.vm) (h : sm_LS C n d A u H) : sm_LS C n d A U H := by
  obtain ⟨c, k, i, f, a, cell, h0, h1, h2, h3, h4, h5, h6, h7, h8, h9, h10⟩ := h
  obtain ⟨k', hi', he⟩ := State.fieldFound?_setVm hvm h1
  exact ⟨c, k', i, f, a, cell, by rw [hvm.findClass]; exact h0, hi', h2, by rw [he]; exact h3, h4, h5, h6, h7, by rw [he]; exact h8, h9, h10⟩
theorem sm_LS.kept {C n d : String} {A : Nat → Prop} {U : State} {H H1 : Heap} (h : sm_LS C n d A U H) (hq : ∀ a : Nat, a < H.size → ¬ A a → H1[a]? = H[a]?) : sm_LS C n d A U H1 := by
  obtain ⟨c, k, i, f, a, cell, h0, h1, h2, h3, h4, h5, h6, h7, h8, h9, h10⟩ := h
  exact ⟨c, k, i, f, a, cell, h0, h1, h2, h3, by rw [hq a (Array.getElem?_eq_some_iff.mp h4).1 h10]; exact h4, h5, h6, h7, h8, h9, h10⟩
theorem sm_LS.narrow {C n d : String} {A B : Nat → Prop} {U : State} {H : Heap} (h : sm_LS C n d A U H) (hAB : ∀ q, B q → A q) : sm_LS C n d B U H := by
  obtain ⟨c, k, i, f, a, cell, h0, h1, h2, h3, h4, h5, h6, h7, h8, h9, h10⟩ := h
  exact ⟨c, k, i, f, a, cell, h0, h1, h2, h3, h4, h5, h6, h7, h8, h9, fun z => h10 (hAB a z)⟩
theorem sm_LS.of {args : Array Value} {s : State} {C n d : String} {A : Nat → Prop} (hl : (Cond.laysStatic C n d).before args s = true) (h : (Cond.isRef (.static C n d)).before args s = true) (hA : ∀ a : Nat, a < s.heap.size → ¬ A a) : sm_LS C n d A s s.heap := by
  obtain ⟨c, k, i, f, a, cell, hc, hi, hst, ha, hcell, hs, hcls, hlt, hty⟩ := Cond.laysStatic_spec hl
  obtain ⟨u, hu⟩ := Cond.staticRefV hi hst ha hcell hs h
  refine ⟨c, k, i, f, a, cell, hc, hi, hst, ha, hcell, hs, hcls, hlt, hty, ?_, hA a (Array.getElem?_eq_some_iff.mp hcell).1⟩
  obtain ⟨v, hv⟩ := u
  cases v with
  | null => exact Or.inl hu
  | ref t => exact Or.inr ⟨t, hu⟩
  | _ => cases hv
theorem sm_LS.ref {C n d : String} {A : Nat → Prop} {U : State} {args : Array Value} (h : sm_LS C n d A U U.heap) : (Cond.isRef (.static C n d)).before args U = true := by
  obtain ⟨c, k, i, f, a, cell, h0, h1, h2, h3, h4, h5, h6, h7, h8, h9, h10⟩ := h
  have he : (Term.static C n d).eval args U none [] U = cell.slots[f.slot]? := by
    simp [Term.eval, State.fieldNamed?, h1, h2, h3, h4, h5]
  rcases h9 with h9 | ⟨t, h9⟩ <;>
  · rw [h9] at he
    simp only [Cond.before, Cond.holds, Cond.value, he]
    rfl
theorem sm_LS.lays {C n d : String} {A : Nat → Prop} {U : State} {args : Array Value} (h : sm_LS C n d A U U.heap) : (Cond.laysStatic C n d).before args U = true := by
  obtain ⟨c, k, i, f, a, cell, h0, h1, h2, h3, h4, h5, h6, h7, h8, h9, h10⟩ := h
  simp [Cond.before, Cond.holds, Cond.value, h0, h1, h2, h3, h4, h5, h6, h7, h8]
def MetX (l : Launch) (y : MethodName) (ws : List Cond) (rm : Room) (Pc : Array Value → State → Prop) (Qc : Array Value → State → Outcome → State → Prop) (mc ms : Nat) (free : Addr → Prop) : Prop :=
  MetFree l y (headSpec ws rm) Pc (fun _ _ _ _ _ => True) (fun a st o t => Qc a st o t ∧ ∃ L, st.WarmedH t.vm ∧ st.sameButNew ({ t with vm := st.vm } : State) L mc ms ∧ ∀ q ∈ L, free q.base)
def MQX (below : List Frame) (Qc : Array Value → State → Outcome → State → Prop) (a : Array Value) (s : State) (mc ms : Nat) (free : Addr → Prop) : State → Prop := fun t =>
  ∃ o, t.status = .running ∧ Ended t below o ∧ Qc a s o t ∧ ∃ L, s.WarmedH t.vm ∧ s.sameButNew ({ t with vm := s.vm } : State) L mc ms ∧ ∀ q ∈ L, free q.base
theorem MetX.ofW {l : Launch} {y : MethodName} {ws ws' : List Cond} {rm : Room} {Pc : Array Value → State → Prop} {Qc : Array Value → State → Outcome → State → Prop} {mc ms : Nat} {free : Addr → Prop} {cc : ByteArray} {maxL : Nat} {ret : Option FieldType}
    (hy : plainName y.cls = true) (hw : ws = Cond.code y cc maxL ret :: ws')
    (body : ∀ p e s m args below meth c s₁, BodyLoose p l y (headSpec ws rm) cc maxL ret e s m args below meth c s₁ → c.maxLocals = maxL → c.exceptionTable.toList = [] → Pc args s →
      W p l e (headSpec ws rm).room s m args below meth c s.heap [] 0 0 (MQX below Qc args s mc ms free) (entryFrame m args maxL)) : MetX l y ws rm Pc Qc mc ms free := by
  refine MetFree.of_bodyS (code := cc) (maxLocals := maxL) (ret := ret) hy ?_ ?_
  · intro args s m h hn
    obtain ⟨meth, c, h1, h2, h3, h4, h5, h6, -, -⟩ := Cond.code_spec hn (atoms_spec (ws := ws) h _ (by rw [hw]; exact List.mem_cons_self))
    exact ⟨meth, c, h1, h2, h3, h4, h5, h6⟩
  · intro p e s m args below meth c s₁ B hml hP _
    have hh0 : s₁.heap = s.heap := by rw [B.state]; rfl
    have X := Stand.of_body B
    have hex : c.exceptionTable.toList = [] := by
      obtain ⟨meth', c', h1, h2, -, -, -, -, h7, -⟩ := Cond.code_spec B.named (atoms_spec (ws := ws) B.pre _ (by rw [hw]; exact List.mem_cons_self))
      cases Option.some.inj (h1.symm.trans B.method)
      have hc : meth.code = some c := X.code
      cases Option.some.inj (h2.symm.trans hc)
      exact List.eq_nil_of_length_eq_zero (by simpa [Array.isEmpty] using h7)
    obtain ⟨t, a1, o, b1, b2, b3⟩ := body p e s m args below meth c s₁ B hml hex hP s₁ hh0 X
    exact ⟨t, o, a1, b1, b2, ⟨b3.1, b3.2⟩⟩
section SMX1
variable {p : Program} {l : Launch} {e : Env} {R : Room} {s : State} {m : MethodId} {args : Array Value} {below : List Frame} {meth : Method} {c : Code} {H : Heap} {locs : List Loc} {cells slots : Nat} {Q Q' : State → Prop} {g : JFrame}
theorem sm_mono (h : ∀ t, Q t → Q' t) (k : W p l e R s m args below meth c H locs cells slots Q g) : W p l e R s m args below meth c H locs cells slots Q' g := by
  intro T hT X
  obtain ⟨t, a, b⟩ := k T hT X
  exact ⟨t, a, h t b⟩
end SMX1
/-- what the throwing methods need of the state beside the tables: two statics of Throwable, the texts -/
def sm_strs (U : State) : Prop := (∃ q, vk_R "ScanMill" 102 "nothing was scanned" q U) ∧ (∃ q, vk_R "ScanMill" 112 "the steps of one call are 1 to 500" q U) ∧ (∃ q, vk_R "ScanMill" 118 "no run is under way" q U) ∧ (∃ q, vk_R "ScanMill" 129 "the value is not live in a run" q U) ∧ (∃ q, vk_R "ScanMill" 139 "no such register in a run" q U) ∧ (∃ q, vk_R "ScanMill" 147 "no such slot in a run" q U) ∧ (∃ q, vk_R "ScanMill" 155 "no such number was put out" q U) ∧ va_Nw (.declares (Bundle.initS "java/lang/RuntimeException")) U ∧ va_Nw (.declares (Bundle.initS "java/lang/Exception")) U ∧ va_Nw (.declares (Bundle.initS "java/lang/Throwable")) U ∧ va_Nc "java/lang/IllegalStateException" "java/lang/IllegalArgumentException" U
theorem sm_strs.same {u U : State} (hv : U.vm = u.vm) (h : sm_strs u) : sm_strs U := by
  obtain ⟨⟨a0, h0⟩, ⟨a1, h1⟩, ⟨a2, h2⟩, ⟨a3, h3⟩, ⟨a4, h4⟩, ⟨a5, h5⟩, ⟨a6, h6⟩, h7, h8, h9, h10⟩ := h
  exact ⟨⟨a0, h0.same hv⟩, ⟨a1, h1.same hv⟩, ⟨a2, h2.same hv⟩, ⟨a3, h3.same hv⟩, ⟨a4, h4.same hv⟩, ⟨a5, h5.same hv⟩, ⟨a6, h6.same hv⟩, h7.same rfl hv.symm, h8.same rfl hv.symm, h9.same rfl hv.symm, h10.moved (hv ▸ Vm.Alike.refl _)⟩
theorem sm_strs.warm {s U : State} (hW : s.WarmedH U.vm) (h : sm_strs s) : sm_strs U := by
  obtain ⟨⟨a0, h0⟩, ⟨a1, h1⟩, ⟨a2, h2⟩, ⟨a3, h3⟩, ⟨a4, h4⟩, ⟨a5, h5⟩, ⟨a6, h6⟩, h7, h8, h9, h10⟩ := h
  exact ⟨⟨a0, h0.warm hW⟩, ⟨a1, h1.warm hW⟩, ⟨a2, h2.warm hW⟩, ⟨a3, h3.warm hW⟩, ⟨a4, h4.warm hW⟩, ⟨a5, h5.warm hW⟩, ⟨a6, h6.warm hW⟩, h7.warmD hW, h8.warmD hW, h9.warmD hW, h10.moved hW.alike⟩
theorem sm_strs.nc {U : State} (h : sm_strs U) : va_Nc "java/lang/IllegalStateException" "java/lang/IllegalArgumentException" U := h.2.2.2.2.2.2.2.2.2.2
theorem sm_strs.dec {U : State} {args : Array Value} (h : sm_strs U) : (Cond.declares (Bundle.initS "java/lang/RuntimeException")).before args U = true ∧ (Cond.declares (Bundle.initS "java/lang/Exception")).before args U = true ∧ (Cond.declares (Bundle.initS "java/lang/Throwable")).before args U = true := by
  obtain ⟨⟨a0, h0⟩, ⟨a1, h1⟩, ⟨a2, h2⟩, ⟨a3, h3⟩, ⟨a4, h4⟩, ⟨a5, h5⟩, ⟨a6, h6⟩, h7, h8, h9, h10⟩ := h
  exact ⟨h7.use rfl, h8.use rfl, h9.use rfl⟩
def sm_St (A : Nat → Prop) (U : State) (H : Heap) : Prop := sm_LS Bundle.tN "UNASSIGNED_STACK" Bundle.steD A U H ∧ sm_LS Bundle.tN "SUPPRESSED_SENTINEL" Bundle.listD A U H
theorem sm_St.moved {A : Nat → Prop} {u U : State} {H : Heap} (hvm : u.vm.Alike U.vm) (h : sm_St A u H) : sm_St A U H := ⟨h.1.moved hvm, h.2.moved hvm⟩
theorem sm_St.kept {A : Nat → Prop} {U : State} {H H1 : Heap} (h : sm_St A U H) (hq : ∀ a : Nat, a < H.size → ¬ A a → H1[a]? = H[a]?) : sm_St A U H1 := ⟨h.1.kept hq, h.2.kept hq⟩
theorem sm_St.narrow {A B : Nat → Prop} {U : State} {H : Heap} (h : sm_St A U H) (hAB : ∀ q, B q → A q) : sm_St B U H := ⟨h.1.narrow hAB, h.2.narrow hAB⟩
abbrev rmX (f lo : Nat) : Room := { frames := f, cells := 1, slots := 6, locals := lo }
abbrev sm_PcX (D : va_G) (cl : List vw_C) (tys : List (ClassId × FieldType)) (av : List Value) (ws : va_W) (sz : Nat) : Array Value → State → Prop :=
  va_Pc av (fun U => U.heap.size = sz ∧ va_P D cl ws U.heap ∧ va_K D cl tys U ∧ va_D (fun _ => True) ws ∧ sm_N U ∧ sm_strs U ∧ sm_St (va_A ws sz) U U.heap)
def sm_QX (postR : Option Value → va_W → Prop) (postT : String → Prop) (B : va_W → State → Prop) (A : Nat → Prop) (ws : va_W) : Array Value → State → Outcome → State → Prop := fun _ st o t =>
  ((∃ v u, o = .returned v ∧ postR v u ∧ B u t) ∨ (∃ (a : Nat) (X : String) (ce : Cell), o = .threw a ∧ postT X ∧ B ws t ∧ t.heap[a]? = some ce ∧ st.vm.findClass X = some ce.cls ∧ ce.vm = .none)) ∧ va_F A st t
def sm_X (l : Launch) (y : MethodName) (cc : ByteArray) (maxL : Nat) (ret : Option FieldType) (rm : Room) (D : va_G) (cl : List vw_C) (tys : List (ClassId × FieldType)) (av : List Value) (ws : va_W) (postR : Option Value → va_W → Prop) (postT : String → Prop) : Prop :=
  ∀ sz : Nat, MetX l y (.code y cc maxL ret :: wG) rm (sm_PcX D cl tys av ws sz) (sm_QX postR postT (sm_B D cl tys (va_A ws sz)) (va_A ws sz) ws) 1 6 (va_A ws sz)
theorem sm_cellvm {D : va_G} {cl : List vw_C} {q : Nat × va_E} {H : Heap} {cell : Cell} (h : va_at D cl q H) (hc : H[q.1]? = some cell) : cell.vm.isStatics = false := by
  obtain ⟨a, en⟩ := q
  cases en with
  | inl o =>
    have h : H[a]? = some (vp_cell o.1 o.2) := h
    cases Option.some.inj (h.symm.trans hc)
    obtain ⟨c0, n, v⟩ := o
    rcases v with v | v | v | v | v <;> rfl
  | inr o =>
    obtain ⟨r, -, ce, h1, -, h3, -⟩ := h
    cases Option.some.inj (h1.symm.trans hc)
    rw [h3]; rfl
theorem sm_X.mk {l : Launch} {y : MethodName} {rm : Room} {D : va_G} {cl : List vw_C} {tys : List (ClassId × FieldType)} {av : List Value} {ws : va_W} {postR : Option Value → va_W → Prop} {postT : String → Prop} {cc : ByteArray} {maxL : Nat} {ret : Option FieldType}
    (hy : plainName y.cls = true) (hlen : (lg_sl av).length ≤ maxL)
    (body : ∀ (p : Program) (e : Env) (s : State) (m : MethodId) (below : List Frame) (meth : Method) (c : Code) (A : Nat → Prop) (H : Heap) (locs : List Loc) (ls : Array Slot), p.tables.exec = Jvm.exec → c.code = cc → meth.sig.returnType = ret → (∀ x ∈ wG, x.before av.toArray s = true) → s.vm.findClass y.cls = some m.cls → meth.locks = false → c.maxLocals = maxL → meth.name = y.name → va_P D cl ws H → va_K D cl tys s → va_D A ws → (∀ q, s.heap.size ≤ q → A q) → va_S A s.heap H locs → sm_N s → c.exceptionTable.toList = [] → sm_strs s → sm_St A s s.heap → (∀ q cell, A q → s.heap[q]? = some cell → cell.vm.isStatics = false) → lv_has ls maxL (lv_args 0 av) → W p l e rm s m av.toArray below meth c H locs 0 0 (MQX below (sm_QX postR postT (sm_B D cl tys A) A ws) av.toArray s 1 6 A) (F0 m 0 ls [])) : sm_X l y cc maxL ret rm D cl tys av ws postR postT := by
  intro sz
  refine MetX.ofW (cc := cc) (maxL := maxL) (ret := ret) hy rfl ?_
  intro p e s m args below meth c s₁ B hml hex hv
  obtain ⟨rfl, hsz, hP, hK, hD0, hN, hst, hSt⟩ := hv
  subst hsz
  have hl := lv_entry av (n := maxL) hlen
  rw [lg_entry_eq]
  refine body p e s m below meth c (va_A ws s.heap.size) s.heap [] _ B.exec B.bytes B.returns (fun x hx => atoms_spec (ws := .code y cc maxL ret :: wG) B.pre x (List.mem_cons_of_mem _ hx)) (findClass_of_methodNamed B.named) B.notSynchronized hml (name_of_methodNamed B.named B.method).1 hP hK (hD0.self (sz := s.heap.size)) (fun q h => Or.inr h) va_S.rf hN hex hst hSt ?_ hl
  intro q cell hq hc
  rcases hq with ⟨k, en, hk⟩ | hq
  · exact sm_cellvm (hP k (q, en) hk) hc
  · exact absurd (Array.getElem?_eq_some_iff.mp hc).1 (Nat.not_lt.mpr hq)
/-- the words of a throw that no change of the tables keeps by itself -/
def sm_odd : List Cond := [.isRef (.static Bundle.tN "UNASSIGNED_STACK" Bundle.steD), .isRef (.static Bundle.tN "SUPPRESSED_SENTINEL" Bundle.listD), .laysStatic Bundle.tN "UNASSIGNED_STACK" Bundle.steD, .laysStatic Bundle.tN "SUPPRESSED_SENTINEL" Bundle.listD, .declares (Bundle.initS "java/lang/RuntimeException"), .declares (Bundle.initS "java/lang/Exception"), .declares (Bundle.initS "java/lang/Throwable")]
theorem sm_oddok {A : Nat → Prop} {s : State} {args : Array Value} (hstr : sm_strs s) (hSt : sm_St A s s.heap) : ∀ w ∈ sm_odd, w.before args s = true := by
  intro w hw
  simp only [sm_odd, List.mem_cons, List.not_mem_nil, or_false] at hw
  rcases hw with h | h | h | h | h | h | h <;> rw [h]
  · exact hSt.1.ref
  · exact hSt.2.ref
  · exact hSt.1.lays
  · exact hSt.2.lays
  · exact hstr.dec.1
  · exact hstr.dec.2.1
  · exact hstr.dec.2.2
section SMX2
variable {p : Program} {l : Launch} {e : Env} {R : Room} {s : State} {m : MethodId} {args : Array Value} {below : List Frame} {meth : Method} {c : Code} {H : Heap} {locs : List Loc}
variable {cc : ByteArray} {pc : Nat} {ls : Array Slot} {D : va_G} {cl : List vw_C} {A : Nat → Prop} {tys : List (ClassId × FieldType)} {ws : va_W}
theorem sm_xi {postI : Int32 → va_W → Prop} {postT : String → Prop} {g : JFrame} {w0 : va_W}
    (k : W p l e R s m args below meth c H locs 0 0 (MQ below (va_Qi postI (sm_B D cl tys A) A) args s 0 0 A) g) : W p l e R s m args below meth c H locs 0 0 (MQX below (sm_QX (fun v u => ∃ r, v = some (.int r) ∧ postI r u) postT (sm_B D cl tys A) A w0) args s 1 6 A) g := by
  refine sm_mono (fun t ht => ?_) k
  obtain ⟨o, h1, h2, ⟨⟨r, u, h3, h4, h5⟩, hF⟩, L, ⟨-, h6, h7⟩, h8⟩ := ht
  exact ⟨o, h1, h2, ⟨Or.inl ⟨_, u, h3, ⟨r, rfl, h4⟩, h5⟩, hF⟩, L, h6, h7.mono (Nat.zero_le _) (Nat.zero_le _), h8⟩
theorem sm_xv {postV : va_W → Prop} {postT : String → Prop} {g : JFrame} {w0 : va_W}
    (k : W p l e R s m args below meth c H locs 0 0 (MQ below (va_Qv postV (sm_B D cl tys A) A) args s 0 0 A) g) : W p l e R s m args below meth c H locs 0 0 (MQX below (sm_QX (fun v u => v = none ∧ postV u) postT (sm_B D cl tys A) A w0) args s 1 6 A) g := by
  refine sm_mono (fun t ht => ?_) k
  obtain ⟨o, h1, h2, ⟨⟨u, h3, h4, h5⟩, hF⟩, L, ⟨-, h6, h7⟩, h8⟩ := ht
  exact ⟨o, h1, h2, ⟨Or.inl ⟨_, u, h3, ⟨rfl, h4⟩, h5⟩, hF⟩, L, h6, h7.mono (Nat.zero_le _) (Nat.zero_le _), h8⟩
set_option maxHeartbeats 1000000 in
theorem sm_throw {postR : Option Value → va_W → Prop} {postT : String → Prop} (hexec : p.tables.exec = Jvm.exec) (hb : c.code = cc) (htr : l.stackTraces = false) (ht : ∀ w ∈ wG, w.before args s = true) {own X Y tx : String} {names : List String} {ixN ic ik idx : Nat} {bytes : ByteArray}
    (hown : s.vm.findClass own = some m.cls) (hlocks : meth.locks = false) (hsz : ls.size = c.maxLocals) (hex : c.exceptionTable.toList = []) (hst : ∃ q, vk_R own ik tx q s) (hstr : sm_strs s) (hSt : sm_St A s s.heap) (hns : ∀ q cell, A q → s.heap[q]? = some cell → cell.vm.isStatics = false)
    (hcl : Cond.classLink own ixN X ∈ wG) (hins : Cond.instantiable X 6 ∈ wG) (hini : Cond.initialized X ∈ wG)
    (hat : ∀ w ∈ sm_own own ic X Y idx bytes names, w ∈ wG ∨ w ∈ sm_odd)
    (h0 : decode bytes 0 = .ok (.aload_n 0, 1)) (h1 : decode bytes 1 = .ok (.aload_n 1, 1)) (h2 : decode bytes 2 = .ok (.invokespecial idx, 3)) (h5 : decode bytes 5 = .ok (.return_, 1))
    (hfX : Bundle.fit X = true) (hfY : Bundle.fit Y = true) (hfn : ∀ n ∈ names, Bundle.fit n = true)
    (hP : va_P D cl ws H) (hK : va_K D cl tys s) (hD : va_D A ws) (hS : va_S A s.heap H locs) (hpost : postT X)
    (hR : names.length + 4 < R.frames ∧ 1 ≤ R.cells ∧ 6 ≤ R.slots ∧ 13 * (names.length + 2) + 43 ≤ R.locals)
    (d0 : decode cc pc = .ok (.new ixN, 3)) (d1 : decode cc (pc + 3) = .ok (.dup, 1)) (d2 : decode cc (pc + 4) = .ok (.ldc ik, 2)) (d3 : decode cc (pc + 6) = .ok (.invokespecial ic, 3)) (d4 : decode cc (pc + 9) = .ok (.athrow, 1)) :
    W p l e R s m args below meth c H locs 0 0 (MQX below (sm_QX postR postT (sm_B D cl tys A) A ws) args s 1 6 A) (F0 m pc ls []) := by
  obtain ⟨q, hq⟩ := hst
  refine W.newc hexec hb hown (ht _ hcl) (ht _ hins) (ht _ hini) rfl d0 (by simpa using hR.2.1) (by simpa using hR.2.2.1) (fun cC kC hc hk hkind hn => ?_)
  refine lv_dup hexec hb d1 rfl ?_
  refine va_ldcS hexec hb hown hq d2 ?_
  intro T hT XT
  have htr' : e.platform.stackTraces = false := by rw [XT.admits.platform]; exact htr
  have hnew : s.heap.size ≤ H.size := hS.1
  obtain ⟨U, hsteps, hrun, hend, hW, hsame, ⟨ce, hce, hcc, hcv⟩, hoth, hUz⟩ := sm_ctorThrow XT hexec htr' h0 h1 h2 h5 hown hfX hfY hfn
    (fun w hw => by
      rcases hat w hw with h | h
      · exact ht w h
      · exact sm_oddok hstr hSt w h)
    (fun x hx cell hcell => hns x.base cell (hS.2.2 x hx) hcell) (a := H.size) hc hk (by rw [hT, Array.getElem?_push, if_pos rfl]) hnew (msg := .ref q) rfl
    (g := F0 m (pc + 6) ls (.ref q :: .ref H.size :: .ref H.size :: [])) rfl hsz rfl rfl (rest := []) rfl (by rw [hb]; exact d3) (by rw [hb]; exact d4) (by rw [hex]; intro x hx; cases hx)
    hR.1 (by have := hR.2.2.2; simp [JFrame.monitorRoom, Value.category]; omega) hlocks
  have hkeep : ∀ x, x < H.size → U.heap[x]? = H[x]? := fun x hx => by
    rw [hoth x (Nat.ne_of_lt hx), hT, Array.getElem?_push, if_neg (Nat.ne_of_lt hx)]
  have hsize : U.heap.size = H.size + 1 := by rw [hUz, hT]; simp
  refine ⟨U, hsteps, .threw H.size, hrun, hend, ⟨Or.inr ⟨H.size, X, ce, rfl, hpost, ⟨?_, va_K.moved hW.alike hK, hD⟩, hce, by rw [hcc]; exact hc, hcv⟩, by rw [hsize]; exact Nat.le_trans hnew (Nat.le_succ _), fun x h1 h2 => (hkeep x (Nat.lt_of_lt_of_le h1 hnew)).trans (hS.2.1 x h1 h2)⟩, locs, hW, hsame, hS.2.2⟩
  exact hP.kept (fun k x hx => hkeep x.1 ((hP k x hx).lt))
end SMX2
/-! The handler: its catch types may be cold. -/
theorem sm_hrow {Q : Handler → Pre} {E : CtlPost} {e : Env} {d : Bool} {acts : List Action} {S : State} {f : JFrame} {a : Addr} {x : ExceptionTableEntry} {t : List ExceptionTableEntry} {c : ClassId} {cell : Cell} (hx : covers x f.pc = true) (h0 : x.catchType ≠ 0)
    (hl : S.vm.ClassLinks e.platform f.method.cls x.catchType c) (hcell : S.heap[a]? = some cell) (hobj : ∀ k, cell.vm ≠ .statics k) (hk : ∃ k, S.vm.classes[cell.cls]? = some k) (hc : ∃ k, S.vm.classes[c]? = some k) :
    Sem.wp (findHandler.go f a (x :: t)) Q E e d acts S ↔
      if S.vm.assignable cell.cls c = true then Q (.found x.handlerPc) d acts (S.setVm (S.vm.noted f.method.cls x.catchType (.cls c))) else Sem.wp (findHandler.go f a t) Q E e d acts (S.setVm (S.vm.noted f.method.cls x.catchType (.cls c))) := by
  simp only [covers] at hx
  obtain ⟨r1, r2⟩ := (resolveClass_links e.toSetting hl).op (op := VmOp.resolveClass f.method.cls x.catchType) rfl
  have hal : S.vm.Alike (S.vm.noted f.method.cls x.catchType (.cls c)) := (Vm.Alike.refl S.vm).noted _ _ _
  obtain ⟨k1, hk1⟩ := hk
  obtain ⟨k2, hk2⟩ := hc
  obtain ⟨k1', hk1', -⟩ := hal.2.2 _ _ hk1
  obtain ⟨k2', hk2', -⟩ := hal.2.2 _ _ hk2
  have he : (S.vm.noted f.method.cls x.catchType (.cls c)).assignable cell.cls c = S.vm.assignable cell.cls c := hal.assignable ..
  cases hf : S.vm.assignable cell.cls c <;> rw [hf] at he <;> simp [findHandler.go, hx, h0, r1, r2, hcell, hobj, hk1', hk2', he, VmOp.dirties, VmOp.acts]
/-- the rows of a table by which an exception of the class th, at pc, comes to h -/
def sm_H (pl : Platform) (s : State) (d : ClassId) (pc : Nat) (th : ClassId) : List ExceptionTableEntry → Nat → Prop
  | [], _ => False
  | x :: t, h => covers x pc = true ∧ x.catchType ≠ 0 ∧ ∃ c, s.vm.ClassLinks pl d x.catchType c ∧ ((s.vm.assignable th c = true ∧ x.handlerPc = h) ∨ (s.vm.assignable th c = false ∧ sm_H pl s d pc th t h))
theorem sm_hgo {e : Env} {s : State} {f : JFrame} {a : Addr} {cell : Cell} {h : Nat} (hobj : ∀ k, cell.vm ≠ .statics k) (hk0 : ∃ k, s.vm.classes[cell.cls]? = some k) :
    ∀ (rows : List ExceptionTableEntry) (S : State), s.WarmedH S.vm → S.heap[a]? = some cell → sm_H e.platform s f.method.cls f.pc cell.cls rows h →
      ∃ vm', s.WarmedH vm' ∧ ∀ (Q : Handler → Pre) (E : CtlPost) (d : Bool) (acts : List Action), Sem.wp (findHandler.go f a rows) Q E e d acts S ↔ Q (.found h) d acts (S.setVm vm') := by
  intro rows
  induction rows with
  | nil => intro S _ _ hh; exact hh.elim
  | cons x t ih =>
    intro S hW hcell hh
    obtain ⟨hx, h0, c, hl, hor⟩ := hh
    obtain ⟨k0, hk0⟩ := hk0
    obtain ⟨k0', hk0', -⟩ := hW.alike.2.2 _ _ hk0
    obtain ⟨dk, _, _, kt, hd, _, _, _, _, hkt, _, hopen⟩ := hl.here
    obtain ⟨kt', hkt', -⟩ := hW.alike.2.2 _ _ hkt
    have hN : s.WarmedH (S.vm.noted f.method.cls x.catchType (.cls c)) := hW.noted hd hopen (State.rightAt_cls hl)
    have hrow := fun Q E d acts => sm_hrow (Q := Q) (E := E) (d := d) (acts := acts) (t := t) hx h0 (hW.classLinks hl) hcell hobj ⟨k0', hk0'⟩ ⟨kt', hkt'⟩
    have he : S.vm.assignable cell.cls c = s.vm.assignable cell.cls c := hW.alike.assignable ..
    rcases hor with ⟨hf, hpc⟩ | ⟨hf, hrest⟩
    · exact ⟨_, hN, fun Q E d acts => by rw [hrow Q E d acts, if_pos (by rw [he]; exact hf), hpc]⟩
    · obtain ⟨vm', hW', hq⟩ := ih (S.setVm (S.vm.noted f.method.cls x.catchType (.cls c))) hN hcell hrest
      exact ⟨vm', hW', fun Q E d acts => by rw [hrow Q E d acts, if_neg (by rw [he, hf]; decide)]; exact hq Q E d acts⟩
theorem sm_caught {p : Program} {l : Launch} {e : Env} {R : Room} {s : State} {m : MethodId} {args : Array Value} {below : List Frame} {meth : Method} {c : Code} {T : State} {locs : List Loc} {cells slots : Nat} (X : Stand p l e R s m args below meth c T locs cells slots) {a : Addr} {g : JFrame} (hg : g.method = m) {cell : Cell} {h : Nat} (hcell : T.heap[a]? = some cell) (hobj : cell.vm = .none) (hk0 : ∃ k, s.vm.classes[cell.cls]? = some k)
    (hh : sm_H e.platform s m.cls g.pc cell.cls c.exceptionTable.toList h) :
    ∃ vm', Stand p l e R s m args below meth c (T.setVm vm') locs cells slots ∧ ∀ target, Steps p.tables e below ((T.setVm vm').setTop { g with pc := h, stack := [.ref a] }) target → Steps p.tables e below ((T.setTop g).pushFrame (.throwing a)) target := by
  subst hg
  have hT : At T g.method c below := X.here
  obtain ⟨vm', hW', hq⟩ := sm_hgo (e := e) (s := s) (f := g) (a := a) (cell := cell) (h := h) (fun k => by rw [hobj]; intro z; cases z) hk0 c.exceptionTable.toList ((T.setTop g).pushFrame (.throwing a)) X.warmed hcell hh
  refine ⟨vm', X.noted hW', fun target hrest => ?_⟩
  obtain ⟨hgo, hw⟩ := hT.throwing a
  refine Steps.head hgo hw ?_
  obtain ⟨g₀, hg0⟩ := Option.isSome_iff_exists.mp hT.top
  obtain ⟨r, hr⟩ := State.topJava?_eq_some.mp hg0
  have hfind : ∀ (Q : Handler → Pre) (E : CtlPost) (d : Bool) (acts : List Action), Sem.wp (findHandler g a) Q E e d acts ((T.setTop g).pushFrame (.throwing a)) ↔ Q (.found h) d acts (((T.setTop g).pushFrame (.throwing a)).setVm vm') := fun Q E d acts => by
    have hm : ((T.setTop g).pushFrame (.throwing a)).vm.method? g.method = some meth := X.method'
    rw [W.findHandler_eq hm X.code]
    exact hq Q E d acts
  have key : (stepThrowing e ((T.setTop g).pushFrame (.throwing a)) a (.java g :: r)).Is ((((T.setTop g).pushFrame (.throwing a)).setVm vm').setFrames (.java { g with pc := h, stack := [.ref a] } :: r)) [] := by
    simp only [stepThrowing, searchFrame, vmDo]
    generalize hres : Sem.go _ e false [] ((T.setTop g).pushFrame (.throwing a)) = res
    obtain ⟨as, rfl, ha⟩ := Sem.eq_ok_of hres (a := Handler.found h) (s' := ((T.setTop g).pushFrame (.throwing a)).setVm vm') (acts' := []) (by simp [hfind _ _ _ _])
    exact ⟨rfl, ha⟩
  have hf : ((T.setTop g).pushFrame (.throwing a)).frames = .throwing a :: .java g :: r := by
    have := frames_entered hT.top (.throwing a) (g := g)
    rw [hr] at this
    exact this
  rw [stepThread_throwing hf, key.1]
  have hr' : (T.setVm vm').frames = .java g₀ :: r := hr
  rw [State.setTop_of_frames _ hr'] at hrest
  have e1 : (((T.setTop g).pushFrame (.throwing a)).setVm vm').setFrames (.java { g with pc := h, stack := [.ref a] } :: r) = (T.setVm vm').setFrames (.java { g with pc := h, stack := [.ref a] } :: r) := by
    rw [State.pushFrame, State.setTop_of_frames _ hr, State.setFrames_setFrames]
    rw [show ∀ F G, ((T.setFrames F).setVm vm').setFrames G = ((T.setVm vm').setFrames F).setFrames G from fun _ _ => rfl, State.setFrames_setFrames]
  rw [e1]
  exact hrest
/-! The call of a method that may throw. -/
section SMX3
variable {p : Program} {l : Launch} {e : Env} {R : Room} {s : State} {m : MethodId} {args : Array Value} {below : List Frame} {meth : Method} {c : Code} {H : Heap} {locs : List Loc} {cells slots : Nat} {Q : State → Prop}
variable {y : MethodName} {bytes cc : ByteArray} {maxL nL mc ms n index : Nat} {ret : Option FieldType} {wl : List Cond} {rm : Room} {Pc : Array Value → State → Prop} {Qc : Array Value → State → Outcome → State → Prop} {free : Addr → Prop} {Ts : List Cond} {own C : String} {b : Addr} {As rest : List Value} {g : JFrame}
def sm_RunX (p : Program) (l : Launch) (e : Env) (R : Room) (s : State) (m : MethodId) (args : Array Value) (below : List Frame) (meth : Method) (c : Code) (H : Heap) (locs : List Loc) (cells slots mc ms : Nat) (g : JFrame) (rest : List Value) (Qa : State → Outcome → State → Prop) (free : Addr → Prop) : Prop :=
  ∀ T : State, T.heap = H → Stand p l e R s m args below meth c T locs cells slots → ∃ (o : Outcome) (st₀ t T' : State) (L : List Loc), st₀.heap = H ∧ s.vm.Alike st₀.vm ∧ Stand p l e R s m args below meth c T' (locs ++ L) (cells + mc) (slots + ms) ∧ (∀ q ∈ L, free q.base) ∧ T'.heap = t.heap ∧ T'.vm = t.vm ∧ Qa st₀ o t ∧
    (∀ v, o = .returned v → Goes p e below T g T' { g with pc := g.pc + 3, stack := v.toList ++ rest }) ∧
    (∀ a, o = .threw a → ∀ target, Steps p.tables e below ((T'.setTop { g with stack := rest }).pushFrame (.throwing a)) target → Steps p.tables e below (T.setTop g) target)
theorem sm_runX (S : CallFix p m c cc nL s args Ts own) (hM : MetX l y wl rm Pc Qc mc ms free) (cw : CallW R s args own C index y bytes maxL ret wl rm mc ms n) (hp : PreV s H C b Pc As)
    (hg : g.method = m) (hn : As.length = n) (hsize : g.locals.size = nL) (hstack : g.stack = As.reverse ++ .ref b :: rest) (hW : 2 * g.monitorRoom + (rest.map fun v => v.category).sum ≤ 8) (hdg : decode cc g.pc = .ok (.invokevirtual index, 3)) (hf : cells + mc ≤ R.cells ∧ slots + ms ≤ R.slots) :
    sm_RunX p l e R s m args below meth c H locs cells slots mc ms g rest (Qc (Value.ref b :: As).toArray) free := by
  obtain ⟨⟨hrc, hrs, hfr, hlo, hws, hcw, hcode, hini, hy, hlen, hlink⟩, hinst, hsel⟩ := cw
  obtain ⟨hexec, hb, hml, hown, -⟩ := S
  obtain ⟨hblind, ⟨cellB, hcB, hoB, hclB⟩, hPc⟩ := hp
  intro T hT X
  have hdg' : decode c.code g.pc = .ok (.invokevirtual index, 3) := by rw [hb]; exact hdg
  obtain ⟨mk, methM, hnamed, hmethM, hstM, habM⟩ := Cond.instanceMethod_spec hinst
  obtain ⟨methM', cM, hmethM', hcM, -, hlM, -, -, -, hsigM⟩ := Cond.code_spec hnamed hcode
  cases hmethM.symm.trans hmethM'
  obtain ⟨c2, r2, m2, q1, q2, q3, q4, kP, hkP, hkPi⟩ := Cond.selects_spec hsel
  cases hclB.symm.trans q1
  cases (State.methodFound?_of_named hnamed hy).symm.trans q2
  cases hnamed.symm.trans q3
  have hselP : selectMethod e.platform s.vm cellB.cls mk = .method mk := by rw [Launch.admits_selectMethod X.admits]; exact q4
  obtain ⟨vm₁, X₁, hstep₁⟩ := X.invokevirtual hexec hown hlink hnamed hmethM hstM hkP hkPi hy (a := b) (cell := cellB) (by rw [hT]; exact hcB)
    (fun z h => by rw [h] at hoB; cases hoB) hselP hmethM habM hkP hkPi (g := g) hg (argsL := As) (rest := rest) (hn.trans (hlen _ hsigM)) hstack hdg'
  have hW₁ := X₁.warmed
  have hnU : (T.setVm vm₁).methodNamed? y = some mk := X₁.named hnamed
  have h2 : (Cond.code y bytes maxL ret).before (Value.ref b :: As).toArray (T.setVm vm₁) = true := hws _ hcw _ _ hW₁
  obtain ⟨methY, cY, hmY, hcY, -, hlY, -, -, -, -⟩ := Cond.code_spec hnU h2
  obtain ⟨kY, hkY, -⟩ := className_of_methodNamed hnU
  have hinitY : kY.init = .initialized := Cond.initialized_spec (findClass_of_methodNamed hnU) hkY (word_at (a' := (Value.ref b :: As).toArray) hW₁ (Or.inl (by first | rfl | simp [Cond.onTables, Cond.keeps, Cond.steady])) hini)
  have hat : At (T.setVm vm₁) ({ g with stack := rest } : JFrame).method c below := by rw [show ({ g with stack := rest } : JFrame).method = m from hg]; exact X₁.here
  have happ : (headSpec wl rm).appliesLoose y e.platform ((T.setVm vm₁).calling { g with stack := rest } mk (Value.ref b :: As).toArray) = true :=
    Spec.appliesLoose_calling (g := { g with stack := rest }) hat hdg' hnU hkY hinitY
      (X₁.room_calling (g := { g with stack := rest }) (R' := (headSpec wl rm).room) (hsize.trans hml.symm) hmY hcY hfr (by rw [hlY]; show _ + (maxL + 11) + rm.locals ≤ _; have hW2 : 2 * ({ g with stack := rest } : JFrame).monitorRoom + ((({ g with stack := rest } : JFrame).stack).map fun v => v.category).sum ≤ 8 := hW; omega) (by show cells + rm.cells ≤ _; rw [hrc]; exact hf.1) (by show slots + rm.slots ≤ _; rw [hrs]; exact hf.2)) (atoms_intro fun w hw => hws w hw _ _ hW₁)
  obtain ⟨mid, hmid⟩ := hat.above
  have hfr2 : ((T.setVm vm₁).setTop { g with stack := rest }).frames = (.java { g with stack := rest } :: mid) ++ below := by rw [State.frames_setTop' _ hat.top, hmid]; rfl
  obtain ⟨o, s₂, hsteps, -, hend, hq, L, hWe, hsame, hL⟩ := Steps.callFree hM p X₁.admits X₁.cas X₁.clock (acts := []) hfr2 happ (hblind _ _ _ _ (hPc (T.setVm vm₁) hT hW₁)) trivial
  rw [State.frames_setTop' _ hat.top] at hend
  have hend2 : Ended s₂ (.java { g with stack := rest } :: below) o := by
    obtain ⟨g9, hr9⟩ := X₁.frames_eq
    rw [hr9] at hend
    exact hend
  have hal : s.vm.Alike ((T.setVm vm₁).calling { g with stack := rest } mk (Value.ref b :: As).toArray).vm := hW₁.alike
  cases o with
  | returned v =>
    obtain ⟨T', X', -, -, ht⟩ := X₁.outOf (g := { g with stack := rest }) hg hdg' hend2 hWe hsame
    refine ⟨.returned v, (T.setVm vm₁).calling { g with stack := rest } mk (Value.ref b :: As).toArray, s₂, T', L, hT, hal, X', hL, by rw [ht]; rfl, by rw [ht]; rfl, hq, fun v' hv' target h => ?_, fun a ha => by cases ha⟩
    cases hv'
    exact hstep₁ _ fun acts => by rw [doInvoke_state]; exact hsteps.trans (by rw [ht]; exact h)
  | threw a =>
    obtain ⟨T', X', -, -, ht⟩ := X₁.outOfThrown (g := { g with stack := rest }) hg hend2 hWe hsame
    refine ⟨.threw a, (T.setVm vm₁).calling { g with stack := rest } mk (Value.ref b :: As).toArray, s₂, T', L, hT, hal, X', hL, by rw [ht]; rfl, by rw [ht]; rfl, hq, (fun v' hv' => by cases hv'), fun a' ha' target h => ?_⟩
    cases ha'
    exact hstep₁ _ fun acts => by rw [doInvoke_state]; exact hsteps.trans (by rw [ht]; exact h)
end SMX3
/-! The law's own helpers: a method with an exception table that calls a method that may throw. -/
theorem sm_MetW {l : Launch} {y : MethodName} {ws ws' : List Cond} {rm : Room} {Pc : Array Value → State → Prop} {Qc : Array Value → State → Outcome → State → Prop} {mc ms : Nat} {free : Addr → Prop} {cc : ByteArray} {maxL : Nat} {ret : Option FieldType} {hh : List (Nat × Nat × Nat × Nat)}
    (hy : plainName y.cls = true) (hw : ws = Cond.codeWith y cc maxL ret hh :: ws')
    (body : ∀ p e s m args below meth c s₁, BodyLoose p l y (headSpec ws rm) cc maxL ret e s m args below meth c s₁ → c.maxLocals = maxL → c.exceptionTable.toList.map (fun h => (h.startPc, h.endPc, h.handlerPc, h.catchType)) = hh → Pc args s →
      W p l e (headSpec ws rm).room s m args below meth c s.heap [] 0 0 (MQ below Qc args s mc ms free) (entryFrame m args maxL)) : Met l y ws rm Pc Qc mc ms free := by
  refine va_MetW (cc := cc) (maxL := maxL) (ret := ret) (hh := hh) hy hw ?_
  intro p e s m args below meth c s₁ B hml hP
  have X := Stand.of_body B
  have hex : c.exceptionTable.toList.map (fun h => (h.startPc, h.endPc, h.handlerPc, h.catchType)) = hh := by
    obtain ⟨m9, meth', c', hn9, h1, h2, -, -, h5, -⟩ := Cond.codeWith_spec (atoms_spec (ws := ws) B.pre _ (by rw [hw]; exact List.mem_cons_self))
    cases Option.some.inj (hn9.symm.trans B.named)
    cases Option.some.inj (h1.symm.trans B.method)
    have hc : meth.code = some c := X.code
    cases Option.some.inj (h2.symm.trans hc)
    exact h5
  exact body p e s m args below meth c s₁ B hml hex hP
theorem sm_blindX {D : va_G} {cl : List vw_C} {tys : List (ClassId × FieldType)} {av : List Value} {ws : va_W} {sz : Nat} : FrameBlind (sm_PcX D cl tys av ws sz) := fun a U g mk q => by
  obtain ⟨q0, q1, qP, qK, qD, qN, qs, qS⟩ := q
  exact ⟨q0, q1, qP, va_K.moved (u := U) (U := U.calling g mk a) (Vm.Alike.refl U.vm) qK, qD, qN.same (u := U) (U := U.calling g mk a) rfl, qs.same (u := U) (U := U.calling g mk a) rfl, qS.moved (u := U) (U := U.calling g mk a) (Vm.Alike.refl U.vm)⟩
theorem sm_StH {s U : State} {H : Heap} {A B : Nat → Prop} {locs : List Loc} (hSt : sm_St A s s.heap) (hS : va_S A s.heap H locs) (hvm : s.vm.Alike U.vm) (hU : U.heap = H) (hB : ∀ q, B q → A q) : sm_St B U U.heap := by
  rw [hU]
  exact ((hSt.kept hS.2.1).moved hvm).narrow hB
theorem sm_preVX {s : State} {H : Heap} {D : va_G} {cl : List vw_C} {tys tys' : List (ClassId × FieldType)} {A : Nat → Prop} {As : List Value} {ws wc : va_W} {b ci : Nat} {q : vw_C} {fs : List Value} {locs : List Loc} (hN : sm_N s) (hstr : sm_strs s) (hSt : sm_St A s s.heap) (hS : va_S A s.heap H locs) (hA : ∀ q, s.heap.size ≤ q → A q) (hK : va_K D cl tys s) (it : List Nat) (hty : it.filterMap (fun i => tys[i]?) = tys') (hP : va_P D cl ws H) (hD : va_D A ws) (isC : List Nat) (hf : isC.filterMap (fun i => ws[i]?) = wc) (hC : isC.map (fun i => ws[i]?) = wc.map some) (hn : va_nd isC = true) (q0 : Nat) (hc : cl[ci]? = some q) (he : ws[q0]? = some (b, .inr (ci, fs))) : PreV s H q.1 b (sm_PcX D cl tys' (.ref b :: As) wc H.size) As :=
  ⟨sm_blindX, va_recv hK hP hc he, fun U hU hW => ⟨rfl, by rw [hU], by rw [hU]; exact hP.sub isC hf, va_K.moved hW.alike (hK.sub it hty), (hD.sub isC hn hC).weaken (fun _ _ _ _ => trivial), hN.warm hW, hstr.warm hW, sm_StH hSt hS hW.alike hU (va_free (wc := wc) hD hS hA isC hC)⟩⟩
theorem sm_cVX {R : Room} {s : State} {args : Array Value} {own C : String} {index maxL : Nat} {y : MethodName} {bytes : ByteArray} {ret : Option FieldType} {rm : Room} (n : Nat) (ht : ∀ w ∈ wG, w.before args s = true) (hc : Cond.code y bytes maxL ret ∈ wG) (hini : Cond.initialized y.cls ∈ wG) (hl : Cond.methodLink own index y ∈ wG) (hin : Cond.instanceMethod y ∈ wG) (hse : Cond.selects C y y ∈ wG) (hrc : rm.cells = 1) (hrs : rm.slots = 6)
    (hd : y.cls ≠ "java/lang/invoke/MethodHandle" ∧ y.cls ≠ "java/lang/invoke/VarHandle" ∧ (parseMethodDescriptor y.desc).map (fun d => d.parameters.length) = some n) (hR : rm.frames + 1 ≤ R.frames ∧ 8 + (maxL + 11) + rm.locals ≤ R.locals) : CallW R s args own C index y bytes maxL ret (.code y bytes maxL ret :: wG) rm 1 6 n :=
  ⟨callB_of n ht (wG_GoodIn hc) rfl hrc hrs (ht _ hini) (ht _ hl) hd hR, ht _ hin, ht _ hse⟩
section SMX4
variable {p : Program} {l : Launch} {e : Env} {R : Room} {s : State} {m : MethodId} {args : Array Value} {below : List Frame} {meth : Method} {c : Code} {H : Heap} {locs : List Loc} {cells slots : Nat} {Q : State → Prop}
variable {cc : ByteArray} {pc : Nat} {ls : Array Slot} {rest st0 : List Value} {D : va_G} {cl : List vw_C} {A : Nat → Prop} {tys : List (ClassId × FieldType)} {ws wc wr : va_W} {av : Array Value}
theorem sm_goX {postR : Option Value → va_W → Prop} {postT : String → Prop} (hpc : String → Nat) (hr : sm_RunX p l e R s m args below meth c H locs cells slots 1 6 (F0 m pc ls st0) rest (sm_QX postR postT (sm_B D cl tys (va_A wc H.size)) (va_A wc H.size) wc av) (va_A wc H.size)) (hP : va_P D cl ws H) (hD : va_D A ws) (hS : va_S A s.heap H locs) (hA : ∀ q, s.heap.size ≤ q → A q) (isC isR : List Nat) (hC : isC.map (fun i => ws[i]?) = wc.map some) (hR : isR.map (fun i => ws[i]?) = wr.map some) (hn : va_nd isR = true) (hdis : ∀ i ∈ isR, i ∉ isC)
    (hh : ∀ X cX, e.platform.magicAccessors = ({} : Platform).magicAccessors → postT X → s.vm.findClass X = some cX → (∃ k, s.vm.classes[cX]? = some k) ∧ sm_H e.platform s m.cls pc cX c.exceptionTable.toList (hpc X))
    (kr : ∀ (v : Option Value) (w1 : va_W) (H1 : Heap) (locs1 : List Loc), postR v w1 → va_P D cl (wr ++ w1) H1 → va_D A (wr ++ w1) → va_S A s.heap H1 locs1 → W p l e R s m args below meth c H1 locs1 (cells + 1) (slots + 6) Q (F0 m (pc + 3) ls (v.toList ++ rest)))
    (kt : ∀ (X : String) (a : Nat) (H1 : Heap) (locs1 : List Loc), postT X → va_P D cl (wr ++ wc) H1 → va_D A (wr ++ wc) → va_S A s.heap H1 locs1 → W p l e R s m args below meth c H1 locs1 (cells + 1) (slots + 6) Q (F0 m (hpc X) ls [.ref a])) : W p l e R s m args below meth c H locs cells slots Q (F0 m pc ls st0) := by
  have hFc := va_free (wc := wc) hD hS hA isC hC
  intro T hT X
  obtain ⟨o, st₀, t, T', L, h0, hal, X', hL, e1, e2, ⟨hout, hz, hk⟩, hret, hthr⟩ := hr T hT X
  rw [h0] at hz hk
  have hS1 : va_S A s.heap T'.heap (locs ++ L) := ⟨Nat.le_trans hS.1 (by rw [e1]; exact hz), fun q h1 h2 => by rw [e1, hk q (Nat.lt_of_lt_of_le h1 hS.1) (fun z => h2 (hFc q z))]; exact hS.2.1 q h1 h2, fun q hq => by
      rcases List.mem_append.mp hq with h | h
      · exact hS.2.2 q h
      · exact hFc _ (hL q h)⟩
  rcases hout with ⟨v, u, rfl, hp, hP1, hK1, hD1⟩ | ⟨a, X9, ce, rfl, hp, ⟨hP1, hK1, hD1⟩, hce, hX, hcv⟩
  · rw [← e1] at hP1 hk
    obtain ⟨hP2, hD2⟩ := va_join (wr := wr) (w1 := u) hP hD isC isR hC hR hn hdis hk hFc hP1 hD1
    obtain ⟨t2, a1, b1⟩ := kr v u T'.heap (locs ++ L) hp hP2 hD2 hS1 T' rfl X'
    exact ⟨t2, hret v rfl t2 a1, b1⟩
  · rw [← e1] at hP1 hk hce
    obtain ⟨hP2, hD2⟩ := va_join (wr := wr) (w1 := wc) hP hD isC isR hC hR hn hdis hk hFc hP1 hD1
    have hX' : s.vm.findClass X9 = some ce.cls := by rw [← hal.findClass]; exact hX
    obtain ⟨hk0, hH⟩ := hh X9 ce.cls (by rw [X'.admits.platform]) hp hX'
    obtain ⟨vm', XV, st⟩ := sm_caught X' (a := a) (g := { F0 m pc ls st0 with stack := rest }) rfl hce hcv hk0 hH
    obtain ⟨t2, a1, b1⟩ := kt X9 a T'.heap (locs ++ L) hp hP2 hD2 hS1 (T'.setVm vm') rfl XV
    exact ⟨t2, hthr a rfl t2 (st t2 a1), b1⟩
theorem sm_ri1 {post : Int32 → va_W → Prop} {v : Int32} (hexec : p.tables.exec = Jvm.exec) (hb : c.code = cc) (hr : meth.sig.returnType = some .int) (hlocks : meth.locks = false) (hK : va_K D cl tys s) (hP : va_P D cl ws H) (hD : va_D A ws) (hS : va_S A s.heap H locs) (hpost : post v ws) (hdg : decode cc pc = .ok (.ireturn, 1)) :
    W p l e R s m args below meth c H locs 1 6 (MQ below (va_Qi post (sm_B D cl tys A) A) args s 1 6 A) (F0 m pc ls [.int v]) :=
  W.iret hexec hb hr (fun t ht hW => ⟨⟨v, ws, rfl, hpost, by rw [ht]; exact hP, va_K.moved hW.alike hK, hD⟩, hS.F ht⟩) hS.2.2 hdg (hlocks := hlocks)
end SMX4
theorem sm_tab1 {L : List ExceptionTableEntry} {a b h t : Nat} (e : L.map (fun h => (h.startPc, h.endPc, h.handlerPc, h.catchType)) = [(a, b, h, t)]) : ∃ x : ExceptionTableEntry, L = [x] ∧ x.startPc = a ∧ x.endPc = b ∧ x.handlerPc = h ∧ x.catchType = t := by
  cases L with
  | nil => cases e
  | cons x r =>
    cases r with
    | nil => simp only [List.map_cons, List.map_nil, List.cons.injEq, Prod.mk.injEq, and_true] at e; exact ⟨x, rfl, e.1, e.2.1, e.2.2.1, e.2.2.2⟩
    | cons y r => simp at e
theorem sm_tab2 {L : List ExceptionTableEntry} {a b h t a' b' h' t' : Nat} (e : L.map (fun h => (h.startPc, h.endPc, h.handlerPc, h.catchType)) = [(a, b, h, t), (a', b', h', t')]) : ∃ x y : ExceptionTableEntry, L = [x, y] ∧ (x.startPc = a ∧ x.endPc = b ∧ x.handlerPc = h ∧ x.catchType = t) ∧ (y.startPc = a' ∧ y.endPc = b' ∧ y.handlerPc = h' ∧ y.catchType = t') := by
  cases L with
  | nil => cases e
  | cons x r =>
    rw [List.map_cons, List.cons.injEq] at e
    obtain ⟨y, rfl, h1, h2, h3, h4⟩ := sm_tab1 e.2
    simp only [Prod.mk.injEq] at e
    exact ⟨x, y, rfl, e.1, h1, h2, h3, h4⟩
theorem sm_hyes {pl : Platform} {s : State} {d : ClassId} {pc : Nat} {args : Array Value} {own X : String} {cX : ClassId} {x : ExceptionTableEntry} {r : List ExceptionTableEntry} (hpl : pl.magicAccessors = ({} : Platform).magicAccessors) (hown : s.vm.findClass own = some d) (hx : covers x pc = true) (h0 : x.catchType ≠ 0) (hl : (Cond.classLink own x.catchType X).before args s = true) (hX : s.vm.findClass X = some cX) : sm_H pl s d pc cX (x :: r) x.handlerPc := by
  obtain ⟨c', hc', hcl⟩ := Cond.classLink_spec hown hl pl hpl
  cases hX.symm.trans hc'
  exact ⟨hx, h0, cX, hcl, Or.inl ⟨va_asg _ _, rfl⟩⟩
theorem sm_hno {pl : Platform} {s : State} {d : ClassId} {pc h : Nat} {args : Array Value} {own X N : String} {cX : ClassId} {x : ExceptionTableEntry} {r : List ExceptionTableEntry} (hpl : pl.magicAccessors = ({} : Platform).magicAccessors) (hown : s.vm.findClass own = some d) (hx : covers x pc = true) (h0 : x.catchType ≠ 0) (hl : (Cond.classLink own x.catchType N).before args s = true) (hX : s.vm.findClass X = some cX) (hno : va_Nc X N s) (hr : sm_H pl s d pc cX r h) : sm_H pl s d pc cX (x :: r) h := by
  obtain ⟨c', hc', hcl⟩ := Cond.classLink_spec hown hl pl hpl
  obtain ⟨c1, c2, h1, h2, h3⟩ := hno
  cases h1.symm.trans hX
  cases h2.symm.trans hc'
  exact ⟨hx, h0, _, hcl, Or.inr ⟨h3, hr⟩⟩
theorem sm_kX {s : State} {args : Array Value} {X : String} {n : Nat} {cX : ClassId} (h : (Cond.instantiable X n).before args s = true) (hX : s.vm.findClass X = some cX) : ∃ k, s.vm.classes[cX]? = some k := by
  obtain ⟨c1, k, h1, h2, -⟩ := Cond.instantiable_spec h
  cases h1.symm.trans hX
  exact ⟨k, h2⟩
