/-! Pure words for the model: ranges, ops, what an op reads and sets. -/
def wi (x lo hi : Int32) : Bool := decide (lo ≤ x) && decide (x ≤ hi)
theorem wi_lo {x lo hi : Int32} (h : x < lo) : wi x lo hi = false := by
  unfold wi
  rw [decide_eq_false (by rw [Int32.lt_iff_toInt_lt] at h; rw [Int32.le_iff_toInt_le]; omega), Bool.false_and]
theorem wi_hi {x lo hi : Int32} (h : hi < x) : wi x lo hi = false := by
  unfold wi
  rw [decide_eq_false (p := x ≤ hi) (by rw [Int32.lt_iff_toInt_lt] at h; rw [Int32.le_iff_toInt_le]; omega), Bool.and_false]
theorem wi_1 {x lo hi : Int32} (h : ¬ x < lo) (k : ¬ hi < x) : wi x lo hi = true := by
  unfold wi
  rw [decide_eq_true (p := lo ≤ x) (by rw [Int32.lt_iff_toInt_lt] at h; rw [Int32.le_iff_toInt_le]; omega), decide_eq_true (by rw [Int32.lt_iff_toInt_lt] at k; rw [Int32.le_iff_toInt_le]; omega)]; rfl
theorem wi_iff {x lo hi : Int32} : wi x lo hi = true ↔ lo.toInt ≤ x.toInt ∧ x.toInt ≤ hi.toInt := by
  unfold wi
  rw [Bool.and_eq_true, decide_eq_true_eq, decide_eq_true_eq, Int32.le_iff_toInt_le, Int32.le_iff_toInt_le]
theorem b_eq {a b : Bool} (h : a = true ↔ b = true) : a = b := by
  cases a <;> cases b <;> simp_all
theorem wi_n {x hi : Int32} {n : Nat} (h : hi.toInt + 1 = (n : Int)) : wi x 0 hi = inB x n := by
  refine b_eq (wi_iff.trans ?_)
  unfold inB
  rw [decide_eq_true_eq, show ((0 : Int32)).toInt = 0 from by decide]
  omega
theorem wi_23 {x : Int32} : wi x 0 23 = inB x 24 := wi_n (by decide)
theorem wi_60 {x : Int32} : wi x 0 60 = inB x 61 := wi_n (by decide)
theorem wi_18 {x : Int32} (h : wi x 1 8 = true) : ∃ j, x = nI j ∧ 1 ≤ j ∧ j ≤ 8 := by
  obtain ⟨h1, h2⟩ := wi_iff.mp h
  rw [show ((1 : Int32)).toInt = 1 from by decide] at h1
  rw [show ((8 : Int32)).toInt = 8 from by decide] at h2
  obtain ⟨j, hj, rfl⟩ := inB_j (show inB x 9 = true from decide_eq_true (by omega)) (by decide)
  rw [nI_toInt (by omega)] at h1 h2
  exact ⟨j, rfl, by omega, by omega⟩
theorem wi_18n {x : Int32} (h : wi x 1 8 = false) : ¬ ∃ j, x = nI j ∧ 1 ≤ j ∧ j ≤ 8 := by
  rintro ⟨j, rfl, h1, h2⟩
  have : wi (nI j) 1 8 = true := wi_iff.mpr (by rw [nI_toInt (by omega), show ((1 : Int32)).toInt = 1 from by decide, show ((8 : Int32)).toInt = 8 from by decide]; omega)
  rw [this] at h; cases h
theorem wi_11 {k : Int32} (h : wi k 0 11 = true) : k = 0 ∨ k = 1 ∨ k = 2 ∨ k = 3 ∨ k = 4 ∨ k = 5 ∨ k = 6 ∨ k = 7 ∨ k = 8 ∨ k = 9 ∨ k = 10 ∨ k = 11 := by
  rw [wi_n (n := 12) (by decide)] at h
  obtain ⟨j, hj, rfl⟩ := inB_j h (by decide)
  have : j = 0 ∨ j = 1 ∨ j = 2 ∨ j = 3 ∨ j = 4 ∨ j = 5 ∨ j = 6 ∨ j = 7 ∨ j = 8 ∨ j = 9 ∨ j = 10 ∨ j = 11 := by omega
  rcases this with h | h | h | h | h | h | h | h | h | h | h | h <;> subst h <;> simp [nI]
theorem okOp_wi {k a b c : Int32} (h : okOp k a b c = true) : wi k 0 11 = true := by
  by_cases e : k = 0 ∨ k = 9 ∨ k = 10
  · rcases e with e | e | e <;> subst e <;> decide
  · by_cases e2 : k = 1 ∨ k = 2 ∨ k = 3 ∨ k = 4 ∨ k = 5
    · rcases e2 with e | e | e | e | e <;> subst e <;> decide
    · by_cases e6 : k = 6
      · subst e6; decide
      · by_cases e7 : k = 7
        · subst e7; decide
        · by_cases e8 : k = 8
          · subst e8; decide
          · simp only [okOp, if_neg e, if_neg e2, if_neg e6, if_neg e7, if_neg e8, decide_eq_true_eq] at h
            subst h; decide
theorem okd {k a b c gd : Int32} (hw : wi k 0 11 = true) (h1 : ¬ (k = 0 ∨ k = 9 ∨ k = 10)) (h6 : ¬ k = 6) (h7 : ¬ k = 7) (h8 : ¬ k = 8) (h11 : ¬ k = 11) (hg : gd = b2i (inB a 24 && inB b 24 && inB c 24)) : gd = b2i (okOp k a b c) := by
  have h5 : k = 1 ∨ k = 2 ∨ k = 3 ∨ k = 4 ∨ k = 5 := by
    rcases wi_11 hw with e | e | e | e | e | e | e | e | e | e | e | e
    · exact absurd (Or.inl e) h1
    · exact Or.inl e
    · exact Or.inr (Or.inl e)
    · exact Or.inr (Or.inr (Or.inl e))
    · exact Or.inr (Or.inr (Or.inr (Or.inl e)))
    · exact Or.inr (Or.inr (Or.inr (Or.inr e)))
    · exact absurd e h6
    · exact absurd e h7
    · exact absurd e h8
    · exact absurd (Or.inr (Or.inl e)) h1
    · exact absurd (Or.inr (Or.inr e)) h1
    · exact absurd e h11
  rw [okOp, if_neg h1, if_pos h5]; exact hg
def mrd (fk fa fb fc : Nat → Int32) (t : Nat) (v : Int32) : Bool :=
  if fk t = 1 ∨ fk t = 2 ∨ fk t = 3 ∨ fk t = 4 ∨ fk t = 5 then decide (fb t = v) || decide (fc t = v)
  else if fk t = 6 then decide (fb t = v) else if fk t = 8 ∨ fk t = 10 then decide (fa t = v) else false
def mst (fk fa : Nat → Int32) (t : Nat) (v : Int32) : Bool := (decide (fk t ≤ 6) || decide (fk t = 9)) && decide (fa t = v)
theorem m1_ne {v : Nat} (h : v < 24) : ¬ (-1 : Int32) = nI v := fun e => nI_ne_m1 (a := v) (by omega) e.symm
theorem mrd_rd {n : Nat} {fk fa fb fc : Nat → Int32} {t v : Nat} (hn : n ≤ 60) (ht : t < n) (hv : v < 24) : mrd fk fa fb fc t (nI v) = rdB n fk fa fb fc v t := by
  have hk : kA n fk (nI t) = fk t := kA_nI ht hn
  unfold mrd rdB lA rA
  rw [hk, nI_clamp (by omega)]
  by_cases h5 : fk t = 1 ∨ fk t = 2 ∨ fk t = 3 ∨ fk t = 4 ∨ fk t = 5
  · have h6 : fk t = 1 ∨ fk t = 2 ∨ fk t = 3 ∨ fk t = 4 ∨ fk t = 5 ∨ fk t = 6 := by
      rcases h5 with h | h | h | h | h
      · exact Or.inl h
      · exact Or.inr (Or.inl h)
      · exact Or.inr (Or.inr (Or.inl h))
      · exact Or.inr (Or.inr (Or.inr (Or.inl h)))
      · exact Or.inr (Or.inr (Or.inr (Or.inr (Or.inl h))))
    rw [if_pos h5, if_pos h6, if_pos h5]
  · rw [if_neg h5, if_neg h5, decide_eq_false (m1_ne hv), Bool.or_false]
    by_cases h6 : fk t = 6
    · rw [if_pos h6, if_pos (Or.inr (Or.inr (Or.inr (Or.inr (Or.inr h6)))))]
    · have h7 : ¬ (fk t = 1 ∨ fk t = 2 ∨ fk t = 3 ∨ fk t = 4 ∨ fk t = 5 ∨ fk t = 6) := by
        rintro (h | h | h | h | h | h)
        · exact h5 (Or.inl h)
        · exact h5 (Or.inr (Or.inl h))
        · exact h5 (Or.inr (Or.inr (Or.inl h)))
        · exact h5 (Or.inr (Or.inr (Or.inr (Or.inl h))))
        · exact h5 (Or.inr (Or.inr (Or.inr (Or.inr h))))
        · exact h6 h
      rw [if_neg h6, if_neg h7]
      by_cases h8 : fk t = 8 ∨ fk t = 10
      · rw [if_pos h8, if_pos h8]
      · rw [if_neg h8, if_neg h8, decide_eq_false (m1_ne hv)]
theorem mst_st {n : Nat} {fk fa fb fc : Nat → Int32} {t v : Nat} (hn : n ≤ 60) (hok : okRow n fk fa fb fc) (ht : t < n) (hv : v < 24) : mst fk fa t (nI v) = stB n fk fa v t := by
  have hk : kA n fk (nI t) = fk t := kA_nI ht hn
  unfold mst stB sA
  rw [hk, nI_clamp (by omega)]
  have hw := wi_11 (okOp_wi (hok t ht))
  generalize fk t = k at hw
  rcases hw with h | h | h | h | h | h | h | h | h | h | h | h <;> subst h <;> simp [m1_ne hv] <;> decide
theorem lv_t {n : Nat} {fk fa fb fc : Nat → Int32} {fr v : Nat} (hn : n ≤ 60) (hok : okRow n fk fa fb fc) (hv : v < 24) (hf : fr < n) (h : LiveR n fk fa fb fc v fr) : hasB (flw n fk fa fb fc 61 (fun _ => 0) 1) (nI fr) (nI v) = true := (hasB_live hn hok hv (by omega)).mpr h
theorem lv_f {n : Nat} {fk fa fb fc : Nat → Int32} {fr v : Nat} (hn : n ≤ 60) (hok : okRow n fk fa fb fc) (hv : v < 24) (hf : fr < n) (h : ¬ LiveR n fk fa fb fc v fr) : hasB (flw n fk fa fb fc 61 (fun _ => 0) 1) (nI fr) (nI v) = false := Bool.eq_false_iff.mpr fun z => h ((hasB_live hn hok hv (by omega)).mp z)
theorem suc7 {fk fa fb : Nat → Int32} {t u : Nat} (h : fk t = 7) (e : fa t = nI u) (hu : u < 61) : suc fk (tgN fk fa fb) t u := Or.inl ⟨h, by rw [tgN, if_pos h, e, nI_clamp (by omega)]⟩
theorem suc8 {fk fa fb : Nat → Int32} {t u : Nat} (h : fk t = 8) (e : fb t = nI u) (hu : u < 61) : suc fk (tgN fk fa fb) t u := Or.inr (Or.inl ⟨h, Or.inl (by rw [tgN, if_neg (by rw [h]; decide), e, nI_clamp (by omega)])⟩)
theorem suc7i {fk fa fb : Nat → Int32} {t u w : Nat} (h : fk t = 7) (e : fa t = nI u) (hu : u < 61) (s : suc fk (tgN fk fa fb) t w) : w = u := by
  rcases s with ⟨-, s⟩ | ⟨s, -⟩ | ⟨s, -⟩
  · rw [s, tgN, if_pos h, e, nI_clamp (by omega)]
  · rw [h] at s; exact absurd s (by decide)
  · exact absurd h s
theorem suc8i {fk fa fb : Nat → Int32} {t u w : Nat} (h : fk t = 8) (e : fb t = nI u) (hu : u < 61) (s : suc fk (tgN fk fa fb) t w) : w = u ∨ w = t + 1 := by
  rcases s with ⟨s, -⟩ | ⟨-, s⟩ | ⟨-, s, -⟩
  · rw [h] at s; exact absurd s (by decide)
  · rcases s with s | s
    · exact Or.inl (by rw [s, tgN, if_neg (by rw [h]; decide), e, nI_clamp (by omega)])
    · exact Or.inr s
  · exact absurd h s
theorem sucd {fk fa fb : Nat → Int32} {t w : Nat} (h7 : ¬ fk t = 7) (h8 : ¬ fk t = 8) (s : suc fk (tgN fk fa fb) t w) : fk t ≠ 11 ∧ w = t + 1 := by
  rcases s with ⟨s, -⟩ | ⟨s, -⟩ | ⟨-, -, s, e⟩
  · exact absurd s h7
  · exact absurd s h8
  · exact ⟨s, e⟩
