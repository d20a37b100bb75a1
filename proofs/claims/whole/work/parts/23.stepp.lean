/-! What an op needs of its values, and where a run stands behind a step. -/
section STPP
variable {n k : Nat} {fk fa fb fc mr ms : Nat → Int32}
theorem kd16 (hok : okRow n fk fa fb fc) (hk : k < n) (h1 : ¬ fk k < 1) (h6 : ¬ 6 < fk k) : fk k = 1 ∨ fk k = 2 ∨ fk k = 3 ∨ fk k = 4 ∨ fk k = 5 ∨ fk k = 6 := by
  have hw := wi_11 (okOp_wi (hok k hk))
  generalize fk k = z at hw h1 h6
  rcases hw with h | h | h | h | h | h | h | h | h | h | h | h <;> subst h <;> first | exact absurd (by decide) h1 | exact absurd (by decide) h6 | decide
theorem kd15 (hok : okRow n fk fa fb fc) (hk : k < n) (h1 : ¬ fk k < 1) (h5 : ¬ 5 < fk k) : fk k = 1 ∨ fk k = 2 ∨ fk k = 3 ∨ fk k = 4 ∨ fk k = 5 := by
  have hw := wi_11 (okOp_wi (hok k hk))
  generalize fk k = z at hw h1 h5
  rcases hw with h | h | h | h | h | h | h | h | h | h | h | h <;> subst h <;> first | exact absurd (by decide) h1 | exact absurd (by decide) h5 | decide
theorem kdN6 {z : Int32} (h : z < 1 ∨ 6 < z) (h8 : ¬ z = 8) (h10 : ¬ z = 10) : ¬ (z = 1 ∨ z = 2 ∨ z = 3 ∨ z = 4 ∨ z = 5 ∨ z = 6 ∨ z = 8 ∨ z = 10) := by
  rintro (e | e | e | e | e | e | e | e)
  all_goals first | exact h8 e | exact h10 e | (subst e; revert h; decide)
theorem kdN5 {z : Int32} (h : z < 1 ∨ 5 < z) : ¬ (z = 1 ∨ z = 2 ∨ z = 3 ∨ z = 4 ∨ z = 5) := by
  rintro (e | e | e | e | e) <;> (subst e; revert h; decide)
theorem lA_b (hn : n ≤ 60) (hk : k < n) (h : fk k = 1 ∨ fk k = 2 ∨ fk k = 3 ∨ fk k = 4 ∨ fk k = 5 ∨ fk k = 6) : lA n fk fa fb (nI k) = fb k := by
  rw [lA, kA_nI hk hn, if_pos h, nI_clamp (by omega)]
theorem lA_a (hn : n ≤ 60) (hk : k < n) (h : fk k = 8 ∨ fk k = 10) : lA n fk fa fb (nI k) = fa k := by
  rw [lA, kA_nI hk hn, if_neg (by rcases h with h | h <;> rw [h] <;> decide), if_pos h, nI_clamp (by omega)]
theorem rA_c (hn : n ≤ 60) (hk : k < n) (h : fk k = 1 ∨ fk k = 2 ∨ fk k = 3 ∨ fk k = 4 ∨ fk k = 5) : rA n fk fc (nI k) = fc k := by
  rw [rA, kA_nI hk hn, if_pos h, nI_clamp (by omega)]
theorem sA_a (hn : n ≤ 60) (hk : k < n) (h : fk k = 0 ∨ fk k = 1 ∨ fk k = 2 ∨ fk k = 3 ∨ fk k = 4 ∨ fk k = 5 ∨ fk k = 6 ∨ fk k = 9) : sA n fk fa (nI k) = fa k := by
  rw [sA, kA_nI hk hn, if_pos h, nI_clamp (by omega)]
theorem nA_b (hn : n ≤ 60) (hk : k < n) : nA n fb (nI k) = fb k := by
  rw [nA, if_pos (by rw [inB_nI (by omega)]; exact decide_eq_true hk), nI_clamp (by omega)]
theorem tA_7 (hn : n ≤ 60) (hk : k < n) (h : fk k = 7) : tA n fk fa fb (nI k) = fa k := by
  rw [tA, kA_nI hk hn, if_pos h, nI_clamp (by omega)]
theorem tA_8 (hn : n ≤ 60) (hk : k < n) (h : fk k = 8) : tA n fk fa fb (nI k) = fb k := by
  rw [tA, kA_nI hk hn, if_neg (by rw [h]; decide), if_pos h, nI_clamp (by omega)]
theorem okb (hok : okRow n fk fa fb fc) (hk : k < n) (h : fk k = 1 ∨ fk k = 2 ∨ fk k = 3 ∨ fk k = 4 ∨ fk k = 5 ∨ fk k = 6) : inB (fb k) 24 = true := by
  have := hok k hk
  rcases h with h | h | h | h | h | h <;> rw [h] at this <;> simp [okOp] at this <;> simp [this]
theorem okc (hok : okRow n fk fa fb fc) (hk : k < n) (h : fk k = 1 ∨ fk k = 2 ∨ fk k = 3 ∨ fk k = 4 ∨ fk k = 5) : inB (fc k) 24 = true := by
  have := hok k hk
  rcases h with h | h | h | h | h <;> rw [h] at this <;> simp [okOp] at this <;> simp [this]
theorem oka (hok : okRow n fk fa fb fc) (hk : k < n) (h : fk k = 0 ∨ fk k = 1 ∨ fk k = 2 ∨ fk k = 3 ∨ fk k = 4 ∨ fk k = 5 ∨ fk k = 6 ∨ fk k = 9 ∨ fk k = 8 ∨ fk k = 10) : inB (fa k) 24 = true := by
  have := hok k hk
  rcases h with h | h | h | h | h | h | h | h | h | h <;> rw [h] at this <;> simp [okOp] at this <;> simp [this]
/-- every value that op k reads or sets has its place -/
def opPl (n : Nat) (fk fa fb fc mr ms : Nat → Int32) (k : Nat) : Prop := ∀ v, v < 24 → (rdB n fk fa fb fc v k = true ∨ stB n fk fa v k = true) → plOk mr ms v
theorem pl_of {x : Int32} (hx : inB x 24 = true) (h : ∀ v, v < 24 → x = nI v → plOk mr ms v) : plOk mr ms x.toNatClampNeg := by
  obtain ⟨j, hj, rfl⟩ := inB_j hx (by decide)
  rw [nI_clamp (by omega)]
  exact h j hj rfl
theorem use_b (hn : n ≤ 60) (hok : okRow n fk fa fb fc) (hk : k < n) (hp : opPl n fk fa fb fc mr ms k) (h : fk k = 1 ∨ fk k = 2 ∨ fk k = 3 ∨ fk k = 4 ∨ fk k = 5 ∨ fk k = 6) : plOk mr ms (fb k).toNatClampNeg :=
  pl_of (okb hok hk h) fun v hv e => hp v hv (Or.inl (by rw [rdB, lA_b hn hk h, e, decide_eq_true rfl, Bool.true_or]))
theorem use_c (hn : n ≤ 60) (hok : okRow n fk fa fb fc) (hk : k < n) (hp : opPl n fk fa fb fc mr ms k) (h : fk k = 1 ∨ fk k = 2 ∨ fk k = 3 ∨ fk k = 4 ∨ fk k = 5) : plOk mr ms (fc k).toNatClampNeg :=
  pl_of (okc hok hk h) fun v hv e => hp v hv (Or.inl (by rw [rdB, rA_c hn hk h, e, decide_eq_true (p := nI v = nI v) rfl, Bool.or_true]))
theorem use_a (hn : n ≤ 60) (hok : okRow n fk fa fb fc) (hk : k < n) (hp : opPl n fk fa fb fc mr ms k) (h : fk k = 8 ∨ fk k = 10) : inB (fa k) 24 = true ∧ plOk mr ms (fa k).toNatClampNeg := by
  have h1 : inB (fa k) 24 = true := oka hok hk (by rcases h with h | h <;> simp [h])
  exact ⟨h1, pl_of h1 fun v hv e => hp v hv (Or.inl (by rw [rdB, lA_a hn hk h, e, decide_eq_true rfl, Bool.true_or]))⟩
theorem use_s (hn : n ≤ 60) (hok : okRow n fk fa fb fc) (hk : k < n) (hp : opPl n fk fa fb fc mr ms k) (h : fk k = 0 ∨ fk k = 1 ∨ fk k = 2 ∨ fk k = 3 ∨ fk k = 4 ∨ fk k = 5 ∨ fk k = 6 ∨ fk k = 9) : inB (fa k) 24 = true ∧ plOk mr ms (fa k).toNatClampNeg := by
  have h1 : inB (fa k) 24 = true := oka hok hk (by rcases h with h | h | h | h | h | h | h | h <;> simp [h])
  exact ⟨h1, pl_of h1 fun v hv e => hp v hv (Or.inr (by rw [stB, sA_a hn hk h, e, decide_eq_true rfl]))⟩
end STPP
theorem rst_2 {n u sp : Nat} {fk : Nat → Int32} (h : eK n fk u = true) : rst 1 n fk (nI u) sp = 2 := by
  rw [rst, if_neg (by decide), if_pos (of_decide_eq_true h)]
theorem rst_3 {n u sp : Nat} {fk : Nat → Int32} (h : eK n fk u = false) (e : sp = 3000) : rst 1 n fk (nI u) sp = 3 := by
  subst e
  rw [rst, if_neg (by decide), if_neg (of_decide_eq_false h), if_neg (by decide)]
theorem rst_1 {n u sp : Nat} {fk : Nat → Int32} (h : eK n fk u = false) (e : sp < 3000) : rst 1 n fk (nI u) sp = 1 := by
  rw [rst, if_neg (by decide), if_neg (of_decide_eq_false h), if_pos (show nI sp < (3000 : Int32) from nI_lt (b := 3000) e (by decide))]
theorem kd11 {z : Int32} (h : z = 0 ∨ z = 1 ∨ z = 2 ∨ z = 3 ∨ z = 4 ∨ z = 5 ∨ z = 6 ∨ z = 7 ∨ z = 8 ∨ z = 9 ∨ z = 10 ∨ z = 11) (h0 : ¬ z = 0) (h1 : ¬ z = 1) (h2 : ¬ z = 2) (h3 : ¬ z = 3) (h4 : ¬ z = 4) (h5 : ¬ z = 5) (h6 : ¬ z = 6) (h7 : ¬ z = 7) (h8 : ¬ z = 8) (h9 : ¬ z = 9) (h10 : ¬ z = 10) : z = 11 := by
  rcases h with h | h | h | h | h | h | h | h | h | h | h | h
  · exact absurd h h0
  · exact absurd h h1
  · exact absurd h h2
  · exact absurd h h3
  · exact absurd h h4
  · exact absurd h h5
  · exact absurd h h6
  · exact absurd h h7
  · exact absurd h h8
  · exact absurd h h9
  · exact absurd h h10
  · exact h
theorem sm_mx1 {x y : Int32} (h : x ≤ y) : (if x < y then y else x) = y := by
  by_cases q : x < y
  · rw [if_pos q]
  · rw [if_neg q]
    rw [Int32.le_iff_toInt_le] at h
    rw [Int32.lt_iff_toInt_lt] at q
    exact Int32.toInt_inj.mp (by omega)
theorem sm_mx2 {x y : Int32} (h : ¬ x ≤ y) : (if x < y then y else x) = x := by
  rw [if_neg (by rw [Int32.le_iff_toInt_le] at h; rw [Int32.lt_iff_toInt_lt]; omega)]
