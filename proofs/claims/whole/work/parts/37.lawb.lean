/-! The law's helpers: the form of their contract. -/
def sm_L (l : Launch) (y : MethodName) (cc : ByteArray) (maxL : Nat) (hh : List (Nat × Nat × Nat × Nat)) (rm : Room) (D : va_G) (cl : List vw_C) (tys : List (ClassId × FieldType)) (av : List Value) (ws : va_W) (post : Int32 → va_W → Prop) : Prop :=
  ∀ sz : Nat, Met l y (.codeWith y cc maxL (some .int) hh :: wG) rm (sm_PcX D cl tys av ws sz) (va_Qi post (sm_B D cl tys (va_A ws sz)) (va_A ws sz)) 1 6 (va_A ws sz)
theorem sm_L.mk {l : Launch} {y : MethodName} {rm : Room} {D : va_G} {cl : List vw_C} {tys : List (ClassId × FieldType)} {av : List Value} {ws : va_W} {post : Int32 → va_W → Prop} {cc : ByteArray} {maxL : Nat} {hh : List (Nat × Nat × Nat × Nat)}
    (hy : plainName y.cls = true) (hlen : (lg_sl av).length ≤ maxL)
    (body : ∀ (p : Program) (e : Env) (s : State) (m : MethodId) (below : List Frame) (meth : Method) (c : Code) (A : Nat → Prop) (H : Heap) (locs : List Loc) (ls : Array Slot), p.tables.exec = Jvm.exec → c.code = cc → meth.sig.returnType = some .int → (∀ x ∈ wG, x.before av.toArray s = true) → s.vm.findClass y.cls = some m.cls → meth.locks = false → c.maxLocals = maxL → va_P D cl ws H → va_K D cl tys s → va_D A ws → (∀ q, s.heap.size ≤ q → A q) → va_S A s.heap H locs → sm_N s → c.exceptionTable.toList.map (fun h => (h.startPc, h.endPc, h.handlerPc, h.catchType)) = hh → sm_strs s → sm_St A s s.heap → lv_has ls maxL (lv_args 0 av) → W p l e rm s m av.toArray below meth c H locs 0 0 (MQ below (va_Qi post (sm_B D cl tys A) A) av.toArray s 1 6 A) (F0 m 0 ls [])) : sm_L l y cc maxL hh rm D cl tys av ws post := by
  intro sz
  refine sm_MetW (cc := cc) (maxL := maxL) (ret := some .int) (hh := hh) hy rfl ?_
  intro p e s m args below meth c s₁ B hml hex hv
  obtain ⟨rfl, hsz, hP, hK, hD0, hN, hst, hSt⟩ := hv
  subst hsz
  have hl := lv_entry av (n := maxL) hlen
  rw [lg_entry_eq]
  exact body p e s m below meth c (va_A ws s.heap.size) s.heap [] _ B.exec B.bytes B.returns (fun x hx => atoms_spec (ws := .codeWith y cc maxL (some .int) hh :: wG) B.pre x (List.mem_cons_of_mem _ hx)) (findClass_of_methodNamed B.named) B.notSynchronized hml hP hK (hD0.self (sz := s.heap.size)) (fun q h => Or.inr h) va_S.rf hN hex hst hSt hl
