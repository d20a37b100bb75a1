/-! Pure words for the class's machine and its own methods. -/
theorem min300 {np : Nat} (h : np ≤ 3000) : (if (300 : Int32) < nI np then (300 : Int32) else nI np) = nI (min np 300) := by
  by_cases q : 300 < np
  · rw [if_pos (show (300 : Int32) < nI np from nI_lt (a := 300) (b := np) q (by omega)), Nat.min_eq_right (by omega)]; rfl
  · rw [if_neg (show ¬ (300 : Int32) < nI np from nI_nlt (a := 300) (b := np) (by omega) (by decide)), Nat.min_eq_left (by omega)]
def kO (go : Nat → Int32) (np : Nat) (k : Int32) : Int32 := if inB k (min np 300) = true then go k.toNatClampNeg else 0
def kpO (go : Nat → Int32) (np : Nat) (x : Int32) : Nat → Int32 := if 300 ≤ np then go else upd go np x
/-- by the kind of the op -/
def stW {α : Type} (k : Int32) (a0 a7 a8 a9 a10 ad : α) : α := if k = 0 then a0 else if k = 7 then a7 else if k = 8 then a8 else if k = 9 then a9 else if k = 10 then a10 else ad
def pNA (p : Int32) : Int32 := if p = -1 then -9 else p
def rst (rn : Int32) (n : Nat) (fk : Nat → Int32) (nx : Int32) (sp : Nat) : Int32 := if rn = 0 then 0 else if kA n fk nx = 11 then 2 else if nI sp < 3000 then 1 else 3
def valC (sca : Int32) (fi la ov rg sl : Nat → Int32) (v what : Int32) : Int32 :=
  if sca = 0 then -9 else if arB la v = true then
    (if what = 0 then fO fi v else if what = 1 then fO la v else if what = 2 then pNA (rO rg v) else if what = 3 then pNA (rO sl v) else if what = 4 then (if ovB ov v = true then 1 else 0) else -9)
  else -9
def totC (what sca rn : Int32) (n wr : Nat) (sc : Int32) (rg fk : Nat → Int32) (sp cl2 np : Nat) (nx : Int32) : Int32 :=
  if what = 0 then nI n else if what = 1 then (if sca = 0 then 0 else nI wr) else if what = 2 then (if sca = 0 then 0 else sc) else if what = 3 then (if sca = 0 then 0 else nI (cR rg 24 0 0))
  else if what = 4 then (if rn = 0 then 0 else nI sp) else if what = 5 then (if rn = 0 then 0 else nx) else if what = 6 then (if rn = 0 then 0 else nI cl2) else if what = 7 then (if rn = 0 then 0 else nI np)
  else if what = 8 then rst rn n fk nx sp else -1
theorem regs_yes {x : Int32} (h1 : ¬ x < 1) (h2 : x ≤ 8) : ∃ j, x = nI j ∧ 1 ≤ j ∧ j ≤ 8 := by
  rw [Int32.lt_iff_toInt_lt, show ((1 : Int32)).toInt = 1 from by decide] at h1
  rw [Int32.le_iff_toInt_le, show ((8 : Int32)).toInt = 8 from by decide] at h2
  have h0 : inB x 9 = true := decide_eq_true (by omega)
  obtain ⟨j, hj, rfl⟩ := inB_j h0 (by decide)
  rw [nI_toInt (by omega)] at h1 h2
  exact ⟨j, rfl, by omega, by omega⟩
theorem regs_no {x : Int32} (h : x < 1 ∨ ¬ x ≤ 8) : ¬ ∃ j, x = nI j ∧ 1 ≤ j ∧ j ≤ 8 := by
  rintro ⟨j, rfl, h1, h2⟩
  rw [Int32.lt_iff_toInt_lt, Int32.le_iff_toInt_le, nI_toInt (by omega), show ((1 : Int32)).toInt = 1 from by decide, show ((8 : Int32)).toInt = 8 from by decide] at h
  omega
