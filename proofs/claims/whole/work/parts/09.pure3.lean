/-! Pure words for the class's machine. -/
def mA (f : Nat → Int32) (n : Nat) (i : Int32) : Int32 := if inB i n = true then f i.toNatClampNeg else 0
def rdM (rg sl mr ms : Nat → Int32) (v : Int32) : Int32 := if rO rg v = -1 then mA ms 24 (rO sl v) else mA mr 8 (rO rg v)
/-- what is set goes to the value's place: the registers' row, the slots' row -/
def wrM (rg sl mr ms : Nat → Int32) (v x : Int32) : (Nat → Int32) × (Nat → Int32) :=
  if inB (rO rg v) 8 = true then (upd mr (rO rg v).toNatClampNeg x, ms) else if inB (rO sl v) 24 = true then (mr, upd ms (rO sl v).toNatClampNeg x) else (mr, ms)
def rck (k x y : Int32) : Int32 := if k = 1 then x + y else if k = 2 then x - y else if k = 3 then x * y else if k = 4 then (if y ≤ x then 0 else 1) else if k = 5 then (if x < y then y else x) else x
