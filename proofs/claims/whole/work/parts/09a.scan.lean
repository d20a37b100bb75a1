/-! what the class's scan gives -/
theorem od_le (fi la od : Nat → Int32) : (odO fi la 24 0 0 od).1 ≤ 24 := (odO_all fi la od).1
theorem od_in (fi la od : Nat → Int32) : ∀ i, i < (odO fi la 24 0 0 od).1 → inB ((odO fi la 24 0 0 od).2 i) 24 = true := by
  intro i hi
  obtain ⟨a, ha, e, -⟩ := (odO_all fi la od).2.1 i hi
  rw [e, inB_nI (by omega)]
  exact decide_eq_true ha
def scFi (n : Nat) (fk fa ff : Nat → Int32) : Nat → Int32 := (ftO n fk fa ff 24 0 (fun _ => -2) (fun _ => -2)).1
def scLa (n : Nat) (fk fa ff : Nat → Int32) : Nat → Int32 := (ftO n fk fa ff 24 0 (fun _ => -2) (fun _ => -2)).2
def scOv (n : Nat) (fk fa ff ov : Nat → Int32) : Nat → Int32 := ocO n fk (scFi n fk fa ff) (scLa n fk fa ff) 24 0 ov
def scWo (n : Nat) (fk fa ff od : Nat → Int32) : Nat := (odO (scFi n fk fa ff) (scLa n fk fa ff) 24 0 0 od).1
def scOd (n : Nat) (fk fa ff od : Nat → Int32) : Nat → Int32 := (odO (scFi n fk fa ff) (scLa n fk fa ff) 24 0 0 od).2
def scRg (n : Nat) (fk fa ff ov od : Nat → Int32) (w : Nat) : Nat → Int32 := (gRs (scFi n fk fa ff) (scLa n fk fa ff) (scOv n fk fa ff ov) (scOd n fk fa ff od) w (scWo n fk fa ff od) 0 (fun _ => -1) (fun _ => -1)).1
def scRh (n : Nat) (fk fa ff ov od : Nat → Int32) (w : Nat) : Nat → Int32 := (gRs (scFi n fk fa ff) (scLa n fk fa ff) (scOv n fk fa ff ov) (scOd n fk fa ff od) w (scWo n fk fa ff od) 0 (fun _ => -1) (fun _ => -1)).2
def scSl (n : Nat) (fk fa ff ov od : Nat → Int32) (w : Nat) : Nat → Int32 := (gSs (scFi n fk fa ff) (scLa n fk fa ff) (scRg n fk fa ff ov od w) (scOd n fk fa ff od) (scWo n fk fa ff od) 0 (fun _ => -1) (fun _ => -1) 0).1
def scSh (n : Nat) (fk fa ff ov od : Nat → Int32) (w : Nat) : Nat → Int32 := (gSs (scFi n fk fa ff) (scLa n fk fa ff) (scRg n fk fa ff ov od w) (scOd n fk fa ff od) (scWo n fk fa ff od) 0 (fun _ => -1) (fun _ => -1) 0).2.1
def scSc (n : Nat) (fk fa ff ov od : Nat → Int32) (w : Nat) : Int32 := (gSs (scFi n fk fa ff) (scLa n fk fa ff) (scRg n fk fa ff ov od w) (scOd n fk fa ff od) (scWo n fk fa ff od) 0 (fun _ => -1) (fun _ => -1) 0).2.2
