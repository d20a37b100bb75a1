/-! Pure words for the class's scan. -/
def fO (f : Nat → Int32) (v : Int32) : Int32 := if inB v 24 = true then f v.toNatClampNeg else -2
def rO (f : Nat → Int32) (v : Int32) : Int32 := if inB v 24 = true then f v.toNatClampNeg else -1
def arB (la : Nat → Int32) (v : Int32) : Bool := inB v 24 && decide (¬ la v.toNatClampNeg = -2)
def ovB (ov : Nat → Int32) (v : Int32) : Bool := inB v 24 && decide (¬ ov v.toNatClampNeg = 0)
/-- values with registers: q values are left, v the next -/
def cR (rg : Nat → Int32) : Nat → Nat → Nat → Nat
  | 0, _, c => c
  | q + 1, v, c => if rg v = -1 then cR rg q (v + 1) c else cR rg q (v + 1) (c + 1)
def nF (fi la : Nat → Int32) (j : Nat) (t : Int32) : Nat → Int32 := if la j = -2 then upd fi j t else fi
/-- the times of value v: q ops are left, k the next -/
def ftK (n : Nat) (fk fa ff : Nat → Int32) (v : Nat) : Nat → Nat → (Nat → Int32) → (Nat → Int32) → (Nat → Int32) × (Nat → Int32)
  | 0, _, fi, la => (fi, la)
  | q + 1, k, fi, la =>
    if hasB ff (nI k) (nI v) = true then
      if sA n fk fa (nI k) = nI v then ftK n fk fa ff v q (k + 1) (nF (nF fi la v (nI (2 * k))) (upd la v (nI (2 * k))) v (nI (2 * k + 1))) (upd (upd la v (nI (2 * k))) v (nI (2 * k + 1)))
      else ftK n fk fa ff v q (k + 1) (nF fi la v (nI (2 * k))) (upd la v (nI (2 * k)))
    else if sA n fk fa (nI k) = nI v then ftK n fk fa ff v q (k + 1) (nF fi la v (nI (2 * k + 1))) (upd la v (nI (2 * k + 1)))
    else ftK n fk fa ff v q (k + 1) fi la
def ft0 (ff fi la : Nat → Int32) (v : Nat) : (Nat → Int32) × (Nat → Int32) := if hasB ff 0 (nI v) = true then (nF fi la v (-1), upd la v (-1)) else (fi, la)
def ftO (n : Nat) (fk fa ff : Nat → Int32) : Nat → Nat → (Nat → Int32) → (Nat → Int32) → (Nat → Int32) × (Nat → Int32)
  | 0, _, fi, la => (fi, la)
  | q + 1, v, fi, la => ftO n fk fa ff q (v + 1) (ftK n fk fa ff v n 0 (ft0 ff fi la v).1 (ft0 ff fi la v).2).1 (ftK n fk fa ff v n 0 (ft0 ff fi la v).1 (ft0 ff fi la v).2).2
/-- over a call: q ops are left -/
def ocK (n : Nat) (fk fi la : Nat → Int32) (v : Nat) : Nat → Nat → (Nat → Int32) → (Nat → Int32)
  | 0, _, ov => ov
  | q + 1, k, ov => if kA n fk (nI k) = 9 ∧ arB la (nI v) = true ∧ ¬ nI (2 * k) < fi v ∧ ¬ la v ≤ nI (2 * k) then ocK n fk fi la v q (k + 1) (upd ov v 1) else ocK n fk fi la v q (k + 1) ov
def ocO (n : Nat) (fk fi la : Nat → Int32) : Nat → Nat → (Nat → Int32) → (Nat → Int32)
  | 0, _, ov => ov
  | q + 1, v, ov => ocO n fk fi la q (v + 1) (ocK n fk fi la v n 0 (upd ov v 0))
/-- a value is put in: places down from w -/
def ins (fi : Nat → Int32) (v : Nat) : Nat → (Nat → Int32) → (Nat → Int32)
  | 0, od => upd od 0 (nI v)
  | w + 1, od => if fO fi (od w) ≤ fi v then upd od (w + 1) (nI v) else ins fi v w (upd od (w + 1) (od w))
def odO (fi la : Nat → Int32) : Nat → Nat → Nat → (Nat → Int32) → Nat × (Nat → Int32)
  | 0, _, w, od => (w, od)
  | q + 1, v, w, od => if arB la (nI v) = true then odO fi la q (v + 1) (w + 1) (ins fi v w od) else odO fi la q (v + 1) w od
/-- the least free place: q places are left, p the next -/
def lF (fi la ho : Nat → Int32) (x : Int32) : Nat → Nat → Int32
  | 0, _ => -1
  | q + 1, p => if fO fi x ≤ fO la (ho p) then lF fi la ho x q (p + 1) else nI p
def rhl (la rh : Nat → Int32) : Nat → Nat → Int32 → Int32 → Int32
  | 0, _, f, _ => f
  | q + 1, p, f, g => if fO la (rh p) < g then rhl la rh q (p + 1) f g else rhl la rh q (p + 1) (nI p) (fO la (rh p))
/-- one value and the registers: the registers' row, the holders' row -/
def gvR (fi la rg rh : Nat → Int32) (w : Nat) (x : Int32) : (Nat → Int32) × (Nat → Int32) :=
  if lF fi la rh x w 0 = -1 then
    if rhl la rh w 0 (-1) (-2) = -1 then (rg, rh)
    else if inB (rh (rhl la rh w 0 (-1) (-2)).toNatClampNeg) 24 = false then (rg, rh)
    else if la (rh (rhl la rh w 0 (-1) (-2)).toNatClampNeg).toNatClampNeg ≤ fO la x then (rg, rh)
    else (upd (upd rg (rh (rhl la rh w 0 (-1) (-2)).toNatClampNeg).toNatClampNeg (-1)) x.toNatClampNeg (rhl la rh w 0 (-1) (-2)), upd rh (rhl la rh w 0 (-1) (-2)).toNatClampNeg x)
  else (upd rg x.toNatClampNeg (lF fi la rh x w 0), upd rh (lF fi la rh x w 0).toNatClampNeg x)
def gRs (fi la ov od : Nat → Int32) (w : Nat) : Nat → Nat → (Nat → Int32) → (Nat → Int32) → (Nat → Int32) × (Nat → Int32)
  | 0, _, rg, rh => (rg, rh)
  | q + 1, i, rg, rh => if ovB ov (od i) = true then gRs fi la ov od w q (i + 1) rg rh else gRs fi la ov od w q (i + 1) (gvR fi la rg rh w (od i)).1 (gvR fi la rg rh w (od i)).2
def gvS (fi la sl sh : Nat → Int32) (c : Int32) (x : Int32) : (Nat → Int32) × (Nat → Int32) × Int32 :=
  if lF fi la sh x 24 0 = -1 then (sl, sh, c) else (upd sl x.toNatClampNeg (lF fi la sh x 24 0), upd sh (lF fi la sh x 24 0).toNatClampNeg x, if c < lF fi la sh x 24 0 + 1 then lF fi la sh x 24 0 + 1 else c)
def gSs (fi la rg od : Nat → Int32) : Nat → Nat → (Nat → Int32) → (Nat → Int32) → Int32 → (Nat → Int32) × (Nat → Int32) × Int32
  | 0, _, sl, sh, c => (sl, sh, c)
  | q + 1, i, sl, sh, c => if rg (od i).toNatClampNeg = -1 then gSs fi la rg od q (i + 1) (gvS fi la sl sh c (od i)).1 (gvS fi la sl sh c (od i)).2.1 (gvS fi la sl sh c (od i)).2.2 else gSs fi la rg od q (i + 1) sl sh c
theorem lF_in {fi la ho : Nat → Int32} {x : Int32} : ∀ (q p : Nat), lF fi la ho x q p = -1 ∨ ∃ j, p ≤ j ∧ j < p + q ∧ lF fi la ho x q p = nI j := by
  intro q
  induction q with
  | zero => intro p; exact Or.inl rfl
  | succ q ih =>
    intro p
    by_cases h : fO fi x ≤ fO la (ho p)
    · rw [lF, if_pos h]
      rcases ih (p + 1) with e | ⟨j, h1, h2, h3⟩
      · exact Or.inl e
      · exact Or.inr ⟨j, by omega, by omega, h3⟩
    · rw [lF, if_neg h]
      exact Or.inr ⟨p, Nat.le_refl p, by omega, rfl⟩
theorem rhl_in {la rh : Nat → Int32} : ∀ (q p : Nat) (f g : Int32), rhl la rh q p f g = f ∨ ∃ j, p ≤ j ∧ j < p + q ∧ rhl la rh q p f g = nI j := by
  intro q
  induction q with
  | zero => intro p f g; exact Or.inl rfl
  | succ q ih =>
    intro p f g
    by_cases h : fO la (rh p) < g
    · rw [rhl, if_pos h]
      rcases ih (p + 1) f g with e | ⟨j, h1, h2, h3⟩
      · exact Or.inl e
      · exact Or.inr ⟨j, by omega, by omega, h3⟩
    · rw [rhl, if_neg h]
      rcases ih (p + 1) (nI p) (fO la (rh p)) with e | ⟨j, h1, h2, h3⟩
      · exact Or.inr ⟨p, Nat.le_refl p, by omega, e⟩
      · exact Or.inr ⟨j, by omega, by omega, h3⟩
theorem lF_inB {fi la ho : Nat → Int32} {x : Int32} {w N : Nat} (hw : w ≤ N) (h : ¬ lF fi la ho x w 0 = -1) (hN : N ≤ 1000 := by decide) : inB (lF fi la ho x w 0) N = true := by
  obtain ⟨j, -, h2, h3⟩ := (lF_in w 0).resolve_left h
  rw [h3, inB_nI (by omega)]
  exact decide_eq_true (by omega)
theorem rhl_inB {la rh : Nat → Int32} {w N : Nat} {g : Int32} (hw : w ≤ N) (h : ¬ rhl la rh w 0 (-1) g = -1) (hN : N ≤ 1000 := by decide) : inB (rhl la rh w 0 (-1) g) N = true := by
  obtain ⟨j, -, h2, h3⟩ := (rhl_in w 0 (-1) g).resolve_left h
  rw [h3, inB_nI (by omega)]
  exact decide_eq_true (by omega)
