/-! Liveness as such, for one value: ops k < n with kinds kd, targets tg; rd, st: does op k read, set the value. -/
def li_nx (kd : Nat → Int32) (tg : Nat → Nat) (g : Nat → Bool) (k : Nat) : Bool := if kd k = 7 then g (tg k) else if kd k = 8 then g (tg k) || g (k + 1) else if kd k = 11 then false else g (k + 1)
def li_stp (n : Nat) (kd : Nat → Int32) (tg : Nat → Nat) (rd st : Nat → Bool) (g : Nat → Bool) (k : Nat) : Bool := decide (k < n) && (rd k || (li_nx kd tg g k && !st k))
def li_L (n : Nat) (kd : Nat → Int32) (tg : Nat → Nat) (rd st : Nat → Bool) : Nat → Nat → Bool
  | 0, _ => false
  | i + 1, k => li_stp n kd tg rd st (li_L n kd tg rd st i) k
/-- live: by a way of any length -/
def li_Live (n : Nat) (kd : Nat → Int32) (tg : Nat → Nat) (rd st : Nat → Bool) (k : Nat) : Prop := ∃ i, li_L n kd tg rd st i k = true
section LVP
variable {n : Nat} {kd : Nat → Int32} {tg : Nat → Nat} {rd st : Nat → Bool}
theorem li_nx_mono {g g' : Nat → Bool} (h : ∀ k, g k = true → g' k = true) (k : Nat) : li_nx kd tg g k = true → li_nx kd tg g' k = true := by
  unfold li_nx
  by_cases h7 : kd k = 7
  · rw [if_pos h7, if_pos h7]; exact h _
  · rw [if_neg h7, if_neg h7]
    by_cases h8 : kd k = 8
    · rw [if_pos h8, if_pos h8]
      intro z
      rcases Bool.or_eq_true_iff.mp z with q | q
      · exact Bool.or_eq_true_iff.mpr (Or.inl (h _ q))
      · exact Bool.or_eq_true_iff.mpr (Or.inr (h _ q))
    · rw [if_neg h8, if_neg h8]
      by_cases h11 : kd k = 11
      · rw [if_pos h11, if_pos h11]; exact id
      · rw [if_neg h11, if_neg h11]; exact h _
theorem li_stp_iff {g : Nat → Bool} {k : Nat} : li_stp n kd tg rd st g k = true ↔ k < n ∧ (rd k = true ∨ (li_nx kd tg g k = true ∧ st k = false)) := by
  unfold li_stp
  simp only [Bool.and_eq_true, decide_eq_true_eq, Bool.or_eq_true, Bool.not_eq_true']
theorem li_stp_mono {g g' : Nat → Bool} (h : ∀ k, g k = true → g' k = true) (k : Nat) (z : li_stp n kd tg rd st g k = true) : li_stp n kd tg rd st g' k = true := by
  obtain ⟨a, b⟩ := li_stp_iff.mp z
  refine li_stp_iff.mpr ⟨a, ?_⟩
  rcases b with b | b
  · exact Or.inl b
  · exact Or.inr ⟨li_nx_mono h k b.1, b.2⟩
theorem li_L_mono (i : Nat) : ∀ k, li_L n kd tg rd st i k = true → li_L n kd tg rd st (i + 1) k = true := by
  induction i with
  | zero => intro k z; exact absurd z (by simp [li_L])
  | succ i ih => intro k z; exact li_stp_mono ih k z
theorem li_L_le {i j : Nat} (h : i ≤ j) : ∀ k, li_L n kd tg rd st i k = true → li_L n kd tg rd st j k = true := by
  induction h with
  | refl => intro k z; exact z
  | step _ ih => intro k z; exact li_L_mono _ k (ih k z)
/-- what is closed under a step holds all of it -/
theorem li_fix {g : Nat → Bool} (h : ∀ k, li_stp n kd tg rd st g k = true → g k = true) (i : Nat) : ∀ k, li_L n kd tg rd st i k = true → g k = true := by
  induction i with
  | zero => intro k z; exact absurd z (by simp [li_L])
  | succ i ih => intro k z; exact h k (li_stp_mono ih k z)
theorem li_fixL {g : Nat → Bool} (h : ∀ k, li_stp n kd tg rd st g k = true → g k = true) {k : Nat} (z : li_Live n kd tg rd st k) : g k = true := z.elim fun i hi => li_fix h i k hi
theorem li_Live_lt {k : Nat} (z : li_Live n kd tg rd st k) : k < n := by
  obtain ⟨i, hi⟩ := z
  cases i with
  | zero => exact absurd hi (by simp [li_L])
  | succ i => exact (li_stp_iff.mp hi).1
theorem li_Live_step {g : Nat → Bool} (h : ∀ k, g k = true → li_Live n kd tg rd st k) {k : Nat} (z : li_stp n kd tg rd st g k = true) : li_Live n kd tg rd st k := by
  obtain ⟨a, b⟩ := li_stp_iff.mp z
  rcases b with b | ⟨b, b2⟩
  · exact ⟨1, li_stp_iff.mpr ⟨a, Or.inl b⟩⟩
  · have key : ∃ i, li_nx kd tg (li_L n kd tg rd st i) k = true := by
      unfold li_nx at b ⊢
      by_cases h7 : kd k = 7
      · rw [if_pos h7] at b
        obtain ⟨i, hi⟩ := h _ b
        exact ⟨i, by rw [if_pos h7]; exact hi⟩
      · rw [if_neg h7] at b
        by_cases h8 : kd k = 8
        · rw [if_pos h8] at b
          rcases Bool.or_eq_true_iff.mp b with q | q
          · obtain ⟨i, hi⟩ := h _ q
            exact ⟨i, by rw [if_neg h7, if_pos h8]; exact Bool.or_eq_true_iff.mpr (Or.inl hi)⟩
          · obtain ⟨i, hi⟩ := h _ q
            exact ⟨i, by rw [if_neg h7, if_pos h8]; exact Bool.or_eq_true_iff.mpr (Or.inr hi)⟩
        · rw [if_neg h8] at b
          by_cases h11 : kd k = 11
          · rw [if_pos h11] at b; exact absurd b (by decide)
          · rw [if_neg h11] at b
            obtain ⟨i, hi⟩ := h _ b
            exact ⟨i, by rw [if_neg h7, if_neg h8, if_neg h11]; exact hi⟩
    obtain ⟨i, hi⟩ := key
    exact ⟨i + 1, li_stp_iff.mpr ⟨a, Or.inr ⟨hi, b2⟩⟩⟩
end LVP
/-- how many below n -/
def cnB (g : Nat → Bool) : Nat → Nat
  | 0 => 0
  | n + 1 => cnB g n + (if g n = true then 1 else 0)
theorem cnB_le (g : Nat → Bool) (n : Nat) : cnB g n ≤ n := by
  induction n with
  | zero => exact Nat.le_refl 0
  | succ n ih =>
    show cnB g n + _ ≤ n + 1
    by_cases h : g n = true
    · rw [if_pos h]; omega
    · rw [if_neg h]; omega
theorem cnB_mono {g g' : Nat → Bool} (h : ∀ k, g k = true → g' k = true) (n : Nat) : cnB g n ≤ cnB g' n := by
  induction n with
  | zero => exact Nat.le_refl 0
  | succ n ih =>
    show cnB g n + _ ≤ cnB g' n + _
    by_cases h1 : g n = true
    · rw [if_pos h1, if_pos (h n h1)]; omega
    · rw [if_neg h1]; omega
theorem cnB_lt {g g' : Nat → Bool} (h : ∀ k, g k = true → g' k = true) {k : Nat} (h1 : g' k = true) (h2 : ¬ g k = true) : ∀ n, k < n → cnB g n < cnB g' n := by
  intro n
  induction n with
  | zero => intro z; exact absurd z (Nat.not_lt_zero _)
  | succ n ih =>
    intro z
    show cnB g n + _ < cnB g' n + _
    by_cases e : k = n
    · subst e
      rw [if_pos h1, if_neg h2]
      have := cnB_mono h k
      omega
    · have := ih (by omega)
      by_cases h3 : g n = true
      · rw [if_pos h3, if_pos (h n h3)]; omega
      · rw [if_neg h3]; omega
section LVQ
variable {n : Nat} {kd : Nat → Int32} {tg : Nat → Nat} {rd st : Nat → Bool}
theorem li_stab (i : Nat) : (∃ j, j ≤ i ∧ ∀ k, li_L n kd tg rd st (j + 1) k = true → li_L n kd tg rd st j k = true) ∨ i ≤ cnB (li_L n kd tg rd st i) n := by
  induction i with
  | zero => exact Or.inr (Nat.zero_le _)
  | succ i ih =>
    rcases ih with ⟨j, hj, h⟩ | h
    · exact Or.inl ⟨j, by omega, h⟩
    · by_cases q : ∀ k, li_L n kd tg rd st (i + 1) k = true → li_L n kd tg rd st i k = true
      · exact Or.inl ⟨i, by omega, q⟩
      · obtain ⟨k, hk⟩ := Classical.not_forall.mp q
        have hk1 : li_L n kd tg rd st (i + 1) k = true := Classical.byContradiction fun z => hk fun y => absurd y z
        have hk2 : ¬ li_L n kd tg rd st i k = true := fun z => hk fun _ => z
        have := cnB_lt (li_L_mono i) hk1 hk2 n (li_stp_iff.mp hk1).1
        exact Or.inr (by omega)
/-- after more steps than there are ops nothing new comes -/
theorem li_L_all {N : Nat} (hN : n < N) {k : Nat} (z : li_Live n kd tg rd st k) : li_L n kd tg rd st N k = true := by
  rcases li_stab (n := n) (kd := kd) (tg := tg) (rd := rd) (st := st) N with ⟨j, hj, h⟩ | h
  · exact li_L_le hj k (li_fixL (g := li_L n kd tg rd st j) h z)
  · exact absurd (Nat.le_trans h (cnB_le _ n)) (by omega)
end LVQ
