/-! Pure words for the class's methods that may throw. -/
theorem wi_of500 {x : Int32} (h1 : ¬ x < 1) (h2 : x ≤ 500) : wi x 1 500 = true := wi_iff.mpr ⟨by rw [Int32.lt_iff_toInt_lt] at h1; omega, by rw [Int32.le_iff_toInt_le] at h2; exact h2⟩
theorem wi_no500 {x : Int32} (h : x < 1 ∨ ¬ x ≤ 500) : wi x 1 500 = false := by
  refine Bool.eq_false_iff.mpr (fun z => ?_)
  obtain ⟨h1, h2⟩ := wi_iff.mp z
  rw [Int32.lt_iff_toInt_lt, Int32.le_iff_toInt_le] at h
  omega
theorem rst_rn {rn nx : Int32} {n sp : Nat} {fk : Nat → Int32} (h : rst rn n fk nx sp = 1) : ¬ rn = 0 := by
  intro z
  rw [rst, if_pos z] at h
  exact absurd h (by decide)
theorem rst_nz {rn nx : Int32} {n sp : Nat} {fk : Nat → Int32} (h : ¬ rn = 0) : rst rn n fk nx sp = rst 1 n fk nx sp := by
  unfold rst
  rw [if_neg h, if_neg (show ¬ (1 : Int32) = 0 by decide)]
theorem rst_go3 {nx : Int32} {n sp : Nat} {fk : Nat → Int32} (hsp : sp ≤ 3000) (e : rst 1 n fk nx sp = 1) : sp < 3000 := by
  unfold rst at e
  rw [if_neg (show ¬ (1 : Int32) = 0 by decide)] at e
  by_cases h11 : kA n fk nx = 11
  · rw [if_pos h11] at e; exact absurd e (by decide)
  · rw [if_neg h11] at e
    by_cases hc : nI sp < 3000
    · exact (nI_ltI (a := sp) (b := 3000) (by omega) (by decide)).mp hc
    · rw [if_neg hc] at e; exact absurd e (by decide)
