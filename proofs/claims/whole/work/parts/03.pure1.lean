/-! Pure words for the class: the row of ops, liveness. -/
def kA (n : Nat) (fk : Nat → Int32) (k : Int32) : Int32 := if inB k n = true then fk k.toNatClampNeg else 11
def nA (n : Nat) (fb : Nat → Int32) (k : Int32) : Int32 := if inB k n = true then fb k.toNatClampNeg else 0
def sA (n : Nat) (fk fa : Nat → Int32) (k : Int32) : Int32 := if kA n fk k = 0 ∨ kA n fk k = 1 ∨ kA n fk k = 2 ∨ kA n fk k = 3 ∨ kA n fk k = 4 ∨ kA n fk k = 5 ∨ kA n fk k = 6 ∨ kA n fk k = 9 then fa k.toNatClampNeg else -1
def lA (n : Nat) (fk fa fb : Nat → Int32) (k : Int32) : Int32 := if kA n fk k = 1 ∨ kA n fk k = 2 ∨ kA n fk k = 3 ∨ kA n fk k = 4 ∨ kA n fk k = 5 ∨ kA n fk k = 6 then fb k.toNatClampNeg else if kA n fk k = 8 ∨ kA n fk k = 10 then fa k.toNatClampNeg else -1
def rA (n : Nat) (fk fc : Nat → Int32) (k : Int32) : Int32 := if kA n fk k = 1 ∨ kA n fk k = 2 ∨ kA n fk k = 3 ∨ kA n fk k = 4 ∨ kA n fk k = 5 then fc k.toNatClampNeg else -1
def tA (n : Nat) (fk fa fb : Nat → Int32) (k : Int32) : Int32 := if kA n fk k = 7 then fa k.toNatClampNeg else if kA n fk k = 8 then fb k.toNatClampNeg else -1
/-- a kind other than 11 is that of an op that there is -/
theorem kA_in {n : Nat} {fk : Nat → Int32} {k : Int32} (h : kA n fk k ≠ 11) : inB k n = true := by
  unfold kA at h
  by_cases g : inB k n = true
  · exact g
  · rw [if_neg g] at h; exact absurd rfl h
theorem kA_vp {n : Nat} {fk : Nat → Int32} {k : Int32} (hn : n ≤ 60) (h : kA n fk k ≠ 11) : vp_in k 60 := sm_inB (inB_mono (kA_in h) hn)
def okOp (k a b c : Int32) : Bool :=
  if k = 0 ∨ k = 9 ∨ k = 10 then inB a 24
  else if k = 1 ∨ k = 2 ∨ k = 3 ∨ k = 4 ∨ k = 5 then inB a 24 && inB b 24 && inB c 24
  else if k = 6 then inB a 24 && inB b 24
  else if k = 7 then inB a 61
  else if k = 8 then inB a 24 && inB b 61
  else decide (k = 11)
/-- liveness: a row of masks -/
def sH (ff : Nat → Int32) (k : Int32) : Int32 := if inB k 61 = true then ff k.toNatClampNeg else 0
def bitV (v : Int32) : Int32 := if inB v 24 = true then 1 <<< (v &&& 31) else 0
def hasB (ff : Nat → Int32) (k v : Int32) : Bool := decide (¬ sH ff k &&& bitV v = 0)
def sBh (n : Nat) (fk fa fb ff : Nat → Int32) (k : Int32) : Int32 :=
  if kA n fk k = 7 then sH ff (tA n fk fa fb k)
  else if kA n fk k = 8 then sH ff (tA n fk fa fb k) ||| sH ff (k + 1)
  else if kA n fk k = 11 then 0
  else sH ff (k + 1)
def fnd (n : Nat) (fk fa fb fc ff : Nat → Int32) (k : Int32) : Int32 := (bitV (lA n fk fa fb k) ||| bitV (rA n fk fc k)) ||| (sBh n fk fa fb ff k &&& (bitV (sA n fk fa k) ^^^ (-1)))
/-- one sweep from op j - 1 down, with what has changed so far -/
def swp (n : Nat) (fk fa fb fc : Nat → Int32) : Nat → (Nat → Int32) → Int32 → (Nat → Int32) × Int32
  | 0, ff, ch => (ff, ch)
  | j + 1, ff, ch => if fnd n fk fa fb fc ff (nI j) = ff j then swp n fk fa fb fc j ff ch else swp n fk fa fb fc j (upd ff j (fnd n fk fa fb fc ff (nI j))) 1
/-- the sweeps: so many passes are left -/
def flw (n : Nat) (fk fa fb fc : Nat → Int32) : Nat → (Nat → Int32) → Int32 → (Nat → Int32)
  | 0, ff, _ => ff
  | q + 1, ff, ch => if ch = 0 then ff else flw n fk fa fb fc q (swp n fk fa fb fc n ff 0).1 (swp n fk fa fb fc n ff 0).2
