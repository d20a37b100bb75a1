/-! Pure words for the model's answers and its machine. -/
def valM (isS : Int32) (mf ml mi mo mr ms : Nat → Int32) (v what : Int32) : Int32 :=
  if isS = 0 then -9 else if inB v 24 = true then (if mi v.toNatClampNeg = 0 then -9 else
    if what = 0 then mf v.toNatClampNeg else if what = 1 then ml v.toNatClampNeg else if what = 2 then (if mr v.toNatClampNeg = -1 then -9 else mr v.toNatClampNeg) else if what = 3 then (if ms v.toNatClampNeg = -1 then -9 else ms v.toNatClampNeg) else if what = 4 then (if mo v.toNatClampNeg = 0 then 0 else 1) else -9)
  else -9
def eK (n : Nat) (fk : Nat → Int32) (k : Nat) : Bool := decide (kA n fk (nI k) = 11)
theorem kA_out {n k : Nat} {fk : Nat → Int32} (h : n ≤ k) (hk : k < 2 ^ 31) : kA n fk (nI k) = 11 := by
  unfold kA
  rw [if_neg (by rw [inB_nI hk]; simp; omega)]
/-- a value's place is one that there is -/
def plOk (mr ms : Nat → Int32) (v : Nat) : Prop := (mr v = -1 → inB (ms v) 24 = true) ∧ (¬ mr v = -1 → inB (mr v) 8 = true)
theorem rdM_s {mr ms gr gs : Nat → Int32} {v : Int32} (h : inB v 24 = true) (hp : plOk mr ms v.toNatClampNeg) (e : mr v.toNatClampNeg = -1) : gs (ms v.toNatClampNeg).toNatClampNeg = rdM mr ms gr gs v := by
  unfold rdM rO mA
  rw [if_pos h, if_pos h, if_pos e, if_pos (hp.1 e)]
theorem rdM_r {mr ms gr gs : Nat → Int32} {v : Int32} (h : inB v 24 = true) (hp : plOk mr ms v.toNatClampNeg) (e : ¬ mr v.toNatClampNeg = -1) : gr (mr v.toNatClampNeg).toNatClampNeg = rdM mr ms gr gs v := by
  unfold rdM rO mA
  rw [if_pos h, if_neg e, if_pos (hp.2 e)]
theorem wrM_s {mr ms gr gs : Nat → Int32} {v x : Int32} (h : inB v 24 = true) (hp : plOk mr ms v.toNatClampNeg) (e : mr v.toNatClampNeg = -1) : wrM mr ms gr gs v x = (gr, upd gs (ms v.toNatClampNeg).toNatClampNeg x) := by
  unfold wrM rO
  rw [if_pos h, if_pos h, e, if_neg (by decide), if_pos (hp.1 e)]
theorem wrM_r {mr ms gr gs : Nat → Int32} {v x : Int32} (h : inB v 24 = true) (hp : plOk mr ms v.toNatClampNeg) (e : ¬ mr v.toNatClampNeg = -1) : wrM mr ms gr gs v x = (upd gr (mr v.toNatClampNeg).toNatClampNeg x, gs) := by
  unfold wrM rO
  rw [if_pos h, if_pos (hp.2 e)]
theorem hasB_in {n : Nat} {fk fa fb fc : Nat → Int32} {k : Nat} {v : Int32} (hn : n ≤ 60) (hok : okRow n fk fa fb fc) (hk : k < 61) (h : hasB (flw n fk fa fb fc 61 (fun _ => 0) 1) (nI k) v = true) : inB v 24 = true ∧ k < n := by
  by_cases hv : inB v 24 = true
  · refine ⟨hv, ?_⟩
    obtain ⟨j, hj, rfl⟩ := inB_j hv (by decide)
    exact li_Live_lt ((hasB_live hn hok hj hk).mp h)
  · exfalso
    unfold hasB at h
    rw [decide_eq_true_eq] at h
    refine h ?_
    unfold bitV
    rw [if_neg hv]
    exact b_ext fun i hi => by rw [b_and, b_0, Bool.and_false]
/-- the numbers put out that are kept -/
theorem out_in {np : Nat} {k : Int32} (hnp : np ≤ 3000) : inB k (min np 300) = true ↔ ¬ k < 0 ∧ ¬ nI np ≤ k ∧ ¬ (300 : Int32) ≤ k := by
  unfold inB
  rw [decide_eq_true_eq, Int32.lt_iff_toInt_lt, Int32.le_iff_toInt_le, Int32.le_iff_toInt_le, nI_toInt (by omega), show ((0 : Int32)).toInt = 0 from by decide, show ((300 : Int32)).toInt = 300 from by decide]
  omega
def totM (what isS sta : Int32) (n nr ns c3 : Nat) (sp cl2 np : Nat) (nx : Int32) : Int32 :=
  if what = 0 then nI n else if what = 1 then (if isS = 0 then 0 else nI nr) else if what = 2 then (if isS = 0 then 0 else nI ns) else if what = 3 then nI c3
  else if what = 4 then (if sta = 0 then 0 else nI sp) else if what = 5 then (if sta = 0 then 0 else nx) else if what = 6 then (if sta = 0 then 0 else nI cl2) else if what = 7 then (if sta = 0 then 0 else nI np)
  else if what = 8 then sta else -1
/-- values with registers, as the model counts them -/
def cM (isS : Int32) (mi mr : Nat → Int32) : Nat → Nat → Nat → Nat
  | 0, _, c => c
  | q + 1, v, c => if isS = 0 then c else if mi v = 0 then cM isS mi mr q (v + 1) c else if mr v = -1 then cM isS mi mr q (v + 1) c else cM isS mi mr q (v + 1) (c + 1)
theorem rst_t {n : Nat} {fk : Nat → Int32} (h : eK n fk 0 = true) : rst 1 n fk 0 0 = 2 := by
  rw [rst, if_neg (by decide), if_pos (show kA n fk 0 = 11 from of_decide_eq_true h)]
theorem rst_f {n : Nat} {fk : Nat → Int32} (h : eK n fk 0 = false) : rst 1 n fk 0 0 = 1 := by
  rw [rst, if_neg (by decide), if_neg (show ¬ kA n fk 0 = 11 from of_decide_eq_false h), if_pos (by decide)]
