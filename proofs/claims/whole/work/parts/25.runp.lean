/-! A run: the state of the machine, step by step. (next, steps, calls, numbers put out, registers, slots, what was put out) -/
abbrev MS : Type := Int32 × Nat × Nat × Nat × (Nat → Int32) × (Nat → Int32) × (Nat → Int32)
def stpM (n : Nat) (fk fa fb fc rg sl : Nat → Int32) (s : MS) : MS :=
  (stW (kA n fk s.1) (s.1 + 1) (tA n fk fa fb s.1) (if rdM rg sl s.2.2.2.2.1 s.2.2.2.2.2.1 (lA n fk fa fb s.1) = 0 then tA n fk fa fb s.1 else s.1 + 1) (s.1 + 1) (s.1 + 1) (s.1 + 1),
   s.2.1 + 1,
   stW (kA n fk s.1) s.2.2.1 s.2.2.1 s.2.2.1 (s.2.2.1 + 1) s.2.2.1 s.2.2.1,
   stW (kA n fk s.1) s.2.2.2.1 s.2.2.2.1 s.2.2.2.1 s.2.2.2.1 (s.2.2.2.1 + 1) s.2.2.2.1,
   stW (kA n fk s.1) (wrM rg sl s.2.2.2.2.1 s.2.2.2.2.2.1 (sA n fk fa s.1) (nA n fb s.1)).1 s.2.2.2.2.1 s.2.2.2.2.1 (wrM rg sl (fun _ => 7777777) s.2.2.2.2.2.1 (sA n fk fa s.1) (nI (s.2.2.1 + 1))).1 s.2.2.2.2.1 (wrM rg sl s.2.2.2.2.1 s.2.2.2.2.2.1 (sA n fk fa s.1) (rck (kA n fk s.1) (rdM rg sl s.2.2.2.2.1 s.2.2.2.2.2.1 (lA n fk fa fb s.1)) (rdM rg sl s.2.2.2.2.1 s.2.2.2.2.2.1 (rA n fk fc s.1)))).1,
   stW (kA n fk s.1) (wrM rg sl s.2.2.2.2.1 s.2.2.2.2.2.1 (sA n fk fa s.1) (nA n fb s.1)).2 s.2.2.2.2.2.1 s.2.2.2.2.2.1 (wrM rg sl (fun _ => 7777777) s.2.2.2.2.2.1 (sA n fk fa s.1) (nI (s.2.2.1 + 1))).2 s.2.2.2.2.2.1 (wrM rg sl s.2.2.2.2.1 s.2.2.2.2.2.1 (sA n fk fa s.1) (rck (kA n fk s.1) (rdM rg sl s.2.2.2.2.1 s.2.2.2.2.2.1 (lA n fk fa fb s.1)) (rdM rg sl s.2.2.2.2.1 s.2.2.2.2.2.1 (rA n fk fc s.1)))).2,
   stW (kA n fk s.1) s.2.2.2.2.2.2 s.2.2.2.2.2.2 s.2.2.2.2.2.2 s.2.2.2.2.2.2 (kpO s.2.2.2.2.2.2 s.2.2.2.1 (rdM rg sl s.2.2.2.2.1 s.2.2.2.2.2.1 (lA n fk fa fb s.1))) s.2.2.2.2.2.2)
/-- q steps at most are left, j were done -/
def runF (n : Nat) (fk fa fb fc rg sl : Nat → Int32) : Nat → Nat → MS → Nat × MS
  | 0, j, s => (j, s)
  | q + 1, j, s => if rst 1 n fk s.1 s.2.1 = 1 then runF n fk fa fb fc rg sl q (j + 1) (stpM n fk fa fb fc rg sl s) else (j, s)
theorem wi_500 {x : Int32} (h : wi x 1 500 = true) : ∃ j, x = nI j ∧ 1 ≤ j ∧ j ≤ 500 := by
  obtain ⟨h1, h2⟩ := wi_iff.mp h
  rw [show ((1 : Int32)).toInt = 1 from by decide] at h1
  rw [show ((500 : Int32)).toInt = 500 from by decide] at h2
  obtain ⟨j, hj, rfl⟩ := inB_j (show inB x 501 = true from decide_eq_true (by omega)) (by decide)
  rw [nI_toInt (by omega)] at h1 h2
  exact ⟨j, rfl, by omega, by omega⟩
theorem rst_on {sta rn : Int32} {n k sp : Nat} {fk : Nat → Int32} (h : sta = rst rn n fk (nI k) sp) (e : sta = 1) : sta = rst 1 n fk (nI k) sp := by
  have hr : ¬ rn = 0 := by
    intro z
    rw [h, rst, if_pos z] at e
    exact absurd e (by decide)
  rw [h]
  unfold rst
  rw [if_neg hr, if_neg (show ¬ (1 : Int32) = 0 by decide)]
theorem rst_go {n k sp : Nat} {fk : Nat → Int32} (hn : n ≤ 60) (hk : k < 61) (hsp : sp ≤ 3000) (e : rst 1 n fk (nI k) sp = 1) : k < n ∧ ¬ fk k = 11 ∧ sp < 3000 := by
  unfold rst at e
  rw [if_neg (show ¬ (1 : Int32) = 0 by decide)] at e
  by_cases h11 : kA n fk (nI k) = 11
  · rw [if_pos h11] at e; exact absurd e (by decide)
  · rw [if_neg h11] at e
    have hkn : k < n := by
      have := kA_in h11
      rw [inB_nI (by omega)] at this
      exact of_decide_eq_true this
    refine ⟨hkn, by rw [kA_nI hkn hn] at h11; exact h11, ?_⟩
    by_cases hc : nI sp < 3000
    · exact (nI_ltI (a := sp) (b := 3000) (by omega) (by decide)).mp hc
    · rw [if_neg hc] at e; exact absurd e (by decide)
theorem nx_in {n k : Nat} {fk fa fb fc : Nat → Int32} {X : Int32} (hn : n ≤ 60) (hok : okRow n fk fa fb fc) (hk : k < n) (hne : ¬ fk k = 11) : ∃ u, u < 61 ∧ stW (kA n fk (nI k)) (nI k + 1) (tA n fk fa fb (nI k)) (if X = 0 then tA n fk fa fb (nI k) else nI k + 1) (nI k + 1) (nI k + 1) (nI k + 1) = nI u := by
  have h1 : ∃ u, u < 61 ∧ nI k + 1 = nI u := ⟨k + 1, by omega, nI_1 k⟩
  rw [kA_nI hk hn]
  unfold stW
  by_cases e0 : fk k = 0
  · rw [if_pos e0]; exact h1
  rw [if_neg e0]
  by_cases e7 : fk k = 7
  · rw [if_pos e7, tA_7 hn hk e7]
    obtain ⟨u, hu, e⟩ := inB_j (ok7 (hok k hk) e7) (by decide)
    exact ⟨u, hu, e⟩
  rw [if_neg e7]
  by_cases e8 : fk k = 8
  · rw [if_pos e8]
    by_cases ex : X = 0
    · rw [if_pos ex, tA_8 hn hk e8]
      obtain ⟨u, hu, e⟩ := inB_j (ok8 (hok k hk) e8).2 (by decide)
      exact ⟨u, hu, e⟩
    · rw [if_neg ex]; exact h1
  rw [if_neg e8]
  by_cases e9 : fk k = 9
  · rw [if_pos e9]; exact h1
  rw [if_neg e9]
  by_cases e10 : fk k = 10
  · rw [if_pos e10]; exact h1
  · rw [if_neg e10]; exact h1
theorem stW_le {k : Int32} {a b : Nat} (h : a ≤ b) : stW k a a a a b a ≤ b := by
  unfold stW
  by_cases e0 : k = 0
  · rw [if_pos e0]; exact h
  by_cases e7 : k = 7
  · rw [if_neg e0, if_pos e7]; exact h
  by_cases e8 : k = 8
  · rw [if_neg e0, if_neg e7, if_pos e8]; exact h
  by_cases e9 : k = 9
  · rw [if_neg e0, if_neg e7, if_neg e8, if_pos e9]; exact h
  by_cases e10 : k = 10
  · rw [if_neg e0, if_neg e7, if_neg e8, if_neg e9, if_pos e10]; exact Nat.le_refl _
  · rw [if_neg e0, if_neg e7, if_neg e8, if_neg e9, if_neg e10]; exact h
