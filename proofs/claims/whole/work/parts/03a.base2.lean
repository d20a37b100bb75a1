section SML
variable {p : Program} {l : Launch} {e : Env} {R : Room} {s : State} {m : MethodId} {args : Array Value} {below : List Frame} {meth : Method} {c : Code} {H : Heap} {locs : List Loc} {cells slots : Nat} {Q : State → Prop}
variable {cc : ByteArray} {pc : Nat} {ls : Array Slot} {rest : List Value}
theorem sm_look (hexec : p.tables.exec = Jvm.exec) (hb : c.code = cc) {dflt : Int} {ps : Array (Int × Int)} {len : Nat} {x : Int32} {tgt : Nat} (hdg : decode cc pc = .ok (.lookupswitch dflt ps, len)) (h : (ps.toList.zip (ps.toList.drop 1)).all (fun (a, next) => a.1 < next.1) = true ∧ (pc : Int) + Op.lookupswitch.offset ps.toList dflt x.toInt = (tgt : Int))
    (k : W p l e R s m args below meth c H locs cells slots Q (F0 m tgt ls rest)) : W p l e R s m args below meth c H locs cells slots Q (F0 m pc ls (.int x :: rest)) :=
  lv_lookup hexec hb hdg h.1 rfl h.2 k
end SML
theorem sm_lookN {x : Int32} {dflt : Int} : ∀ (ps : List (Int × Int)) (keys : List Int32), sm_nk x keys → (∀ q ∈ ps, q.1 ∈ keys.map (fun k => k.toInt)) → Op.lookupswitch.offset ps dflt x.toInt = dflt
  | [], _, _, _ => rfl
  | (a, o) :: r, keys, hx, hall => by
    show (if a = x.toInt then o else Op.lookupswitch.offset r dflt x.toInt) = dflt
    have hne : a ≠ x.toInt := by
      intro e
      obtain ⟨k, hk, ek⟩ := List.mem_map.mp (hall (a, o) List.mem_cons_self)
      exact sm_nk_mem hx k hk (Int32.toInt_inj.mp (ek.trans e)).symm
    rw [if_neg hne]
    exact sm_lookN r keys hx fun q hq => hall q (List.mem_cons_of_mem _ hq)
theorem sm_lookD {pc : Nat} {dflt : Int} {ps : Array (Int × Int)} {x : Int32} {tgt : Nat} (keys : List Int32) (hx : sm_nk x keys) (hall : (ps.toList.zip (ps.toList.drop 1)).all (fun (a, next) => a.1 < next.1) = true ∧ ∀ q ∈ ps.toList, q.1 ∈ keys.map (fun k => k.toInt)) (ht : (pc : Int) + dflt = (tgt : Int)) : (ps.toList.zip (ps.toList.drop 1)).all (fun (a, next) => a.1 < next.1) = true ∧ (pc : Int) + Op.lookupswitch.offset ps.toList dflt x.toInt = (tgt : Int) :=
  ⟨hall.1, by rw [sm_lookN ps.toList keys hx hall.2]; exact ht⟩
theorem sm_cell {cA : ClassId} {n : Nat} {g f : Nat → Int32} (h : ∀ j, j < n → g j = f j) : vp_cell cA (n, .inl g) = vp_cell cA (n, .inl f) := by
  show arrV cA n (fun j => .int (g j)) = arrV cA n (fun j => .int (f j))
  unfold arrV
  congr 1
  apply Array.ext
  · simp
  · intro i h1 h2
    simp only [Array.getElem_ofFn]
    rw [h i (by simpa using h1)]
theorem sm_Pcong {D : va_G} {cl : List vw_C} {cA : ClassId} {n x : Nat} {g f : Nat → Int32} {H : Heap} (h : ∀ j, j < n → g j = f j) (hP : va_P D cl [(x, .inl (cA, n, .inl g))] H) : va_P D cl [(x, .inl (cA, n, .inl f))] H := by
  intro k q hq
  cases k with
  | zero =>
    cases hq
    have h1 : H[x]? = some (vp_cell cA (n, .inl g)) := hP 0 _ rfl
    show H[x]? = some (vp_cell cA (n, .inl f))
    rw [h1, sm_cell h]
  | succ k => simp at hq
theorem sm_Dcong {A : Nat → Prop} {cA : ClassId} {n x : Nat} {g f : Nat → Int32} (hD : va_D A [(x, .inl (cA, n, .inl g))]) : va_D A [(x, .inl (cA, n, .inl f))] := by
  refine ⟨fun i j p q h1 h2 _ => ?_, fun k q hq => ?_⟩
  · cases i with
    | zero => cases j with
      | zero => rfl
      | succ j => simp at h2
    | succ i => simp at h1
  · cases k with
    | zero => cases hq; exact hD.2 0 (x, .inl (cA, n, .inl g)) rfl
    | succ k => simp at hq
theorem sm_fillstep {gg : Nat → Int32} {u : Int32} {i : Nat} (h : ∀ j, j < i → gg j = u) : ∀ j, j < i + 1 → upd gg i u j = u := by
  intro j hj
  by_cases e : j = i
  · subst e; exact pk_us
  · rw [pk_un e]; exact h j (by omega)
