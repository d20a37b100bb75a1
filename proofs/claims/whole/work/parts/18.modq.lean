/-! Pure words for the model's scan. -/
theorem wi_m1 {x : Int32} {n : Nat} (hn : n ≤ 60) : wi x 0 (nI n - 1) = inB x n := by
  refine wi_n ?_
  cases n with
  | zero => decide
  | succ n => rw [nI_pred, nI_toInt (by omega)]; rfl
def tmF (mf mi : Nat → Int32) (v : Nat) (t : Int32) : Nat → Int32 := if mi v = 0 then upd mf v t else if mf v ≤ t then mf else upd mf v t
def tmL (ml mi : Nat → Int32) (v : Nat) (t : Int32) : Nat → Int32 := if mi v = 0 then upd ml v t else if t ≤ ml v then ml else upd ml v t
abbrev M3 : Type := (Nat → Int32) × (Nat → Int32) × (Nat → Int32)
def tm3 (s : M3) (v : Nat) (t : Int32) : M3 := (tmF s.1 s.2.2 v t, tmL s.2.1 s.2.2 v t, upd s.2.2 v 1)
def mtK (hb rd st : Nat → Bool) (v : Nat) : Nat → Nat → M3 → M3
  | 0, _, s => s
  | q + 1, k, s =>
    mtK hb rd st v q (k + 1)
      (if st k = true then tm3 (if hb k = true then tm3 (if k = 0 then tm3 s v (-1) else s) v (nI (2 * k)) else if rd k = true then tm3 s v (nI (2 * k)) else s) v (nI (2 * k + 1))
       else (if hb k = true then tm3 (if k = 0 then tm3 s v (-1) else s) v (nI (2 * k)) else if rd k = true then tm3 s v (nI (2 * k)) else s))
def moK (fk mf ml mi : Nat → Int32) (v : Nat) : Nat → Nat → (Nat → Int32) → (Nat → Int32)
  | 0, _, mo => mo
  | q + 1, k, mo => moK fk mf ml mi v q (k + 1) (upd mo v (if mo v = 0 then (if fk k = 9 then (if mi v = 0 then 0 else if nI (2 * k) < mf v then 0 else if ml v ≤ nI (2 * k) then 0 else 1) else 0) else 1))
def mayR (mi mg mo : Nat → Int32) (v : Nat) : Bool := decide (¬ mi v = 0) && (decide (mg v = 0) && decide (mo v = 0))
def mayS (mi mg mr : Nat → Int32) (v : Nat) : Bool := decide (¬ mi v = 0) && (decide (mg v = 0) && decide (mr v = -1))
def ngo (mg : Nat → Int32) (b : Int32) : Nat → Int32 := if b = -1 then mg else upd mg b.toNatClampNeg 1
def mgL (mf ml mh : Nat → Int32) (x : Int32) : Nat → Nat → Nat → Bool × Nat
  | 0, _, w => (false, w)
  | q + 1, r, w => if mh r = -1 then (true, r) else if mf x.toNatClampNeg ≤ ml (mh r).toNatClampNeg then mgL mf ml mh x q (r + 1) (if ml (mh r).toNatClampNeg < ml (mh w).toNatClampNeg then w else r) else (true, r)
def gmR (mf ml mr mh : Nat → Int32) (nr : Nat) (x : Int32) : (Nat → Int32) × (Nat → Int32) :=
  if (mgL mf ml mh x nr 0 0).1 = true then (upd mr x.toNatClampNeg (nI (mgL mf ml mh x nr 0 0).2), upd mh (mgL mf ml mh x nr 0 0).2 x)
  else if ml x.toNatClampNeg < ml (mh (mgL mf ml mh x nr 0 0).2).toNatClampNeg then (upd (upd mr (mh (mgL mf ml mh x nr 0 0).2).toNatClampNeg (-1)) x.toNatClampNeg (nI (mgL mf ml mh x nr 0 0).2), upd mh (mgL mf ml mh x nr 0 0).2 x)
  else (mr, mh)
def msL (mf ml mh : Nat → Int32) (x : Int32) : Nat → Nat → Nat
  | 0, s => s
  | q + 1, s => if ml (mh s).toNatClampNeg < mf x.toNatClampNeg then s else msL mf ml mh x q (s + 1)
theorem msL_le {mf ml mh : Nat → Int32} {x : Int32} : ∀ (q s : Nat), s ≤ msL mf ml mh x q s ∧ msL mf ml mh x q s ≤ s + q := by
  intro q
  induction q with
  | zero => intro s; exact ⟨Nat.le_refl _, Nat.le_refl _⟩
  | succ q ih =>
    intro s
    by_cases h : ml (mh s).toNatClampNeg < mf x.toNatClampNeg
    · rw [msL, if_pos h]; omega
    · rw [msL, if_neg h]; have := ih (s + 1); omega
/-- contents that agree within the length are the same cell, at a place of any world -/
theorem sm_Pset {D : va_G} {cl : List vw_C} {ws : va_W} {cA : ClassId} {n x : Nat} {g f : Nat → Int32} {H : Heap} (hP : va_P D cl ws H) (q0 : Nat) (he : ws[q0]? = some (x, .inl (cA, n, .inl g))) (h : ∀ j, j < n → g j = f j) : va_P D cl (ws.set q0 (x, .inl (cA, n, .inl f))) H := by
  intro k q hq
  by_cases e : q0 = k
  · subst e
    have hlt : q0 < ws.length := (List.getElem?_eq_some_iff.mp he).1
    rw [List.getElem?_set_self hlt] at hq
    cases hq
    have h1 : H[x]? = some (vp_cell cA (n, .inl g)) := hP q0 _ he
    show H[x]? = some (vp_cell cA (n, .inl f))
    rw [h1, sm_cell h]
  · rw [List.getElem?_set_ne e] at hq
    exact hP k q hq
theorem sm_lt {a b : Int32} (h : ¬ a ≤ b) : b < a := by rw [Int32.le_iff_toInt_le] at h; rw [Int32.lt_iff_toInt_lt]; omega
theorem sm_nlt {a b : Int32} (h : a ≤ b) : ¬ b < a := by rw [Int32.le_iff_toInt_le] at h; rw [Int32.lt_iff_toInt_lt]; omega
