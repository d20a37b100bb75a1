/-! The model's search along the ways finds liveness. -/
def suc (kd : Nat → Int32) (tg : Nat → Nat) (t u : Nat) : Prop := (kd t = 7 ∧ u = tg t) ∨ (kd t = 8 ∧ (u = tg t ∨ u = t + 1)) ∨ (kd t ≠ 7 ∧ kd t ≠ 8 ∧ kd t ≠ 11 ∧ u = t + 1)
theorem li_nx_iff {kd : Nat → Int32} {tg : Nat → Nat} {g : Nat → Bool} {k : Nat} : li_nx kd tg g k = true ↔ ∃ u, suc kd tg k u ∧ g u = true := by
  unfold li_nx suc
  by_cases h7 : kd k = 7
  · rw [if_pos h7]
    constructor
    · intro z; exact ⟨_, Or.inl ⟨h7, rfl⟩, z⟩
    · rintro ⟨u, (⟨-, e⟩ | ⟨e, -⟩ | ⟨e, -⟩), z⟩
      · rw [← e]; exact z
      · rw [h7] at e; exact absurd e (by decide)
      · exact absurd h7 e
  · rw [if_neg h7]
    by_cases h8 : kd k = 8
    · rw [if_pos h8, Bool.or_eq_true]
      constructor
      · rintro (z | z)
        · exact ⟨_, Or.inr (Or.inl ⟨h8, Or.inl rfl⟩), z⟩
        · exact ⟨_, Or.inr (Or.inl ⟨h8, Or.inr rfl⟩), z⟩
      · rintro ⟨u, (⟨e, -⟩ | ⟨-, (e | e)⟩ | ⟨-, e, -⟩), z⟩
        · exact absurd e h7
        · rw [← e]; exact Or.inl z
        · rw [← e]; exact Or.inr z
        · exact absurd h8 e
    · rw [if_neg h8]
      by_cases h11 : kd k = 11
      · rw [if_pos h11]
        constructor
        · intro z; exact absurd z (by decide)
        · rintro ⟨u, (⟨e, -⟩ | ⟨e, -⟩ | ⟨-, -, e, -⟩), -⟩
          · exact absurd e h7
          · exact absurd e h8
          · exact absurd h11 e
      · rw [if_neg h11]
        constructor
        · intro z; exact ⟨_, Or.inr (Or.inr ⟨h7, h8, h11, rfl⟩), z⟩
        · rintro ⟨u, (⟨e, -⟩ | ⟨e, -⟩ | ⟨-, -, -, e⟩), z⟩
          · exact absurd e h7
          · exact absurd e h8
          · rw [← e]; exact z
theorem cnB_bd {g : Nat → Bool} {n : Nat} : ∀ N, (∀ t, t < N → g t = true → t < n) → cnB g N ≤ n := by
  intro N
  induction N with
  | zero => intro _; exact Nat.zero_le _
  | succ N ih =>
    intro h
    show cnB g N + _ ≤ n
    by_cases q : g N = true
    · have h1 := h N (by omega) q
      have h2 := cnB_le g N
      rw [if_pos q]; omega
    · rw [if_neg q]; exact ih fun t ht => h t (by omega)
theorem cnB_congr {g g' : Nat → Bool} : ∀ N, (∀ t, t < N → g t = g' t) → cnB g N = cnB g' N := by
  intro N
  induction N with
  | zero => intro _; rfl
  | succ N ih => intro h; show cnB g N + _ = cnB g' N + _; rw [ih fun t ht => h t (by omega), h N (by omega)]
theorem cnB_one {g g' : Nat → Bool} {u : Nat} (h1 : g u = false) (h2 : g' u = true) (h3 : ∀ t, t ≠ u → g' t = g t) : ∀ N, u < N → cnB g' N = cnB g N + 1 := by
  intro N
  induction N with
  | zero => intro h; exact absurd h (Nat.not_lt_zero _)
  | succ N ih =>
    intro h
    show cnB g' N + _ = cnB g N + _ + 1
    by_cases e : u = N
    · subst e
      rw [cnB_congr (g := g') (g' := g) u fun t ht => h3 t (by omega), h1, h2]
      rfl
    · rw [ih (by omega), h3 N (Ne.symm e)]; omega
section BFS
variable {n : Nat} {kd : Nat → Int32} {tg : Nat → Nat} {rd st : Nat → Bool} {fr : Nat}
/-- the search under way: the first i of the ways are done -/
def bfI (n : Nat) (kd : Nat → Int32) (tg : Nat → Nat) (rd st : Nat → Bool) (fr i ways : Nat) (wy sn : Nat → Int32) : Prop :=
  (∀ t, t < 61 → sn t = 0 ∨ sn t = 1) ∧ (∀ t, t < 61 → sn t = 1 → t < n) ∧ (∀ j, j < ways → ∃ t, t < n ∧ wy j = nI t ∧ sn t = 1) ∧ (∀ t, t < n → sn t = 1 → ∃ j, j < ways ∧ wy j = nI t) ∧
  ways = cnB (fun t => decide (sn t = 1)) 61 ∧ (∀ t, t < n → sn t = 1 → li_Live n kd tg rd st t → li_Live n kd tg rd st fr) ∧
  (∀ j, j < i → ∀ t, t < n → wy j = nI t → rd t = false ∧ (st t = true ∨ ∀ u, suc kd tg t u → u < n → sn u = 1)) ∧ i ≤ ways ∧ sn fr = 1
theorem bf_ways {i ways : Nat} {wy sn : Nat → Int32} (h : bfI n kd tg rd st fr i ways wy sn) : ways ≤ n := by
  obtain ⟨-, h2, -, -, h5, -⟩ := h
  rw [h5]
  exact cnB_bd 61 fun t ht z => h2 t ht (of_decide_eq_true z)
def gtS (n ways : Nat) (wy sn : Nat → Int32) (u : Nat) : Nat × (Nat → Int32) × (Nat → Int32) := if u < n ∧ sn u = 0 then (ways + 1, upd wy ways (nI u), upd sn u 1) else (ways, wy, sn)
theorem bf_go {i ways : Nat} {wy sn : Nat → Int32} (hn : n ≤ 60) (h : bfI n kd tg rd st fr i ways wy sn) {u : Nat} (hL : li_Live n kd tg rd st u → li_Live n kd tg rd st fr) :
    bfI n kd tg rd st fr i (gtS n ways wy sn u).1 (gtS n ways wy sn u).2.1 (gtS n ways wy sn u).2.2 ∧ (u < n → (gtS n ways wy sn u).2.2 u = 1) ∧ (∀ t, sn t = 1 → (gtS n ways wy sn u).2.2 t = 1) ∧ (∀ j, j < ways → (gtS n ways wy sn u).2.1 j = wy j) ∧ ways ≤ (gtS n ways wy sn u).1 := by
  unfold gtS
  by_cases q : u < n ∧ sn u = 0
  · rw [if_pos q]
    dsimp only
    obtain ⟨hu, h0⟩ := q
    obtain ⟨h1, h2, h3, h4, h5, h6, h7, h8, h9⟩ := h
    have un : ∀ t, t ≠ u → upd sn u 1 t = sn t := fun t ht => pk_un ht
    have up : ∀ t, sn t = 1 → upd sn u 1 t = 1 := by
      intro t ht
      by_cases e : t = u
      · subst e; exact pk_us
      · rw [un t e]; exact ht
    have wn : ∀ j, j < ways → upd wy ways (nI u) j = wy j := fun j hj => pk_un (by omega)
    refine ⟨⟨fun t ht => ?_, fun t ht z => ?_, fun j hj => ?_, fun t ht z => ?_, ?_, fun t ht z => ?_, fun j hj t ht e => ?_, by omega, up fr h9⟩, fun _ => pk_us, up, wn, by omega⟩
    · by_cases e : t = u
      · subst e; exact Or.inr pk_us
      · rw [un t e]; exact h1 t ht
    · by_cases e : t = u
      · subst e; exact hu
      · rw [un t e] at z; exact h2 t ht z
    · by_cases e : j = ways
      · subst e; exact ⟨u, hu, pk_us, pk_us⟩
      · obtain ⟨t, a, b, c⟩ := h3 j (by show j < ways; have : j < ways + 1 := hj; omega)
        exact ⟨t, a, (wn j (by have : j < ways + 1 := hj; omega)).trans b, up t c⟩
    · by_cases e : t = u
      · subst e; exact ⟨ways, Nat.lt_succ_self _, pk_us⟩
      · rw [un t e] at z
        obtain ⟨j, a, b⟩ := h4 t ht z
        exact ⟨j, Nat.lt_succ_of_lt a, (wn j a).trans b⟩
    · rw [h5]
      refine (cnB_one (u := u) (by rw [h0]; decide) (by rw [pk_us]; decide) (fun t ht => by rw [un t ht]) 61 (by omega)).symm
    · by_cases e : t = u
      · subst e; exact hL
      · rw [un t e] at z; exact h6 t ht z
    · rw [wn j (by omega)] at e
      obtain ⟨a, b⟩ := h7 j hj t ht e
      refine ⟨a, b.imp id fun b w hw hwn => up w (b w hw hwn)⟩
  · rw [if_neg q]
    refine ⟨h, fun hu => ?_, fun t z => z, fun j _ => rfl, Nat.le_refl _⟩
    rcases h.1 u (by omega) with z | z
    · exact absurd ⟨hu, z⟩ q
    · exact z
theorem bf_next {i ways : Nat} {wy sn : Nat → Int32} (hn : n ≤ 60) (h : bfI n kd tg rd st fr i ways wy sn) (hi : i < ways) {t : Nat} (ht : t < n) (e : wy i = nI t) (hr : rd t = false) (hs : st t = true ∨ ∀ u, suc kd tg t u → u < n → sn u = 1) : bfI n kd tg rd st fr (i + 1) ways wy sn := by
  obtain ⟨h1, h2, h3, h4, h5, h6, h7, h8, h9⟩ := h
  refine ⟨h1, h2, h3, h4, h5, h6, fun j hj t' ht' e' => ?_, hi, h9⟩
  by_cases q : j = i
  · subst q
    have : t' = t := nI_inj (by omega) (by omega) (e'.symm.trans e)
    subst this
    exact ⟨hr, hs⟩
  · exact h7 j (by omega) t' ht' e'
theorem bf_end {ways : Nat} {wy sn : Nat → Int32} (hf : fr < n) (h : bfI n kd tg rd st fr ways ways wy sn) : ¬ li_Live n kd tg rd st fr := by
  intro z
  obtain ⟨h1, h2, h3, h4, h5, h6, h7, h8, h9⟩ := h
  have key := li_fixL (g := fun k => decide (k < n ∧ ¬ sn k = 1)) (fun k hk => ?_) z
  · exact (of_decide_eq_true key).2 h9
  · obtain ⟨a, b⟩ := li_stp_iff.mp hk
    refine decide_eq_true ⟨a, fun hs => ?_⟩
    obtain ⟨j, hj, e⟩ := h4 k a hs
    obtain ⟨r, s⟩ := h7 j hj k a e
    rcases b with b | ⟨b, b2⟩
    · rw [r] at b; exact absurd b (by decide)
    · obtain ⟨u, su, gu⟩ := li_nx_iff.mp b
      rcases s with s | s
      · rw [s] at b2; exact absurd b2 (by decide)
      · exact (of_decide_eq_true gu).2 (s u su (of_decide_eq_true gu).1)
theorem bf_hit {i ways : Nat} {wy sn : Nat → Int32} (h : bfI n kd tg rd st fr i ways wy sn) {t : Nat} (ht : t < n) (hs : sn t = 1) (hr : rd t = true) : li_Live n kd tg rd st fr :=
  h.2.2.2.2.2.1 t ht hs ⟨1, li_stp_iff.mpr ⟨ht, Or.inl hr⟩⟩
theorem bf_suc {i ways : Nat} {wy sn : Nat → Int32} (h : bfI n kd tg rd st fr i ways wy sn) {t u : Nat} (ht : t < n) (hs : sn t = 1) (hst : st t = false) (hu : suc kd tg t u) : li_Live n kd tg rd st u → li_Live n kd tg rd st fr := by
  rintro ⟨j, hj⟩
  exact h.2.2.2.2.2.1 t ht hs ⟨j + 1, li_stp_iff.mpr ⟨ht, Or.inr ⟨li_nx_iff.mpr ⟨u, hu, hj⟩, hst⟩⟩⟩
theorem bf_0 (hn : n ≤ 60) (hf : fr < n) {wy sn : Nat → Int32} (h0 : ∀ t, t < 61 → sn t = 0) : bfI n kd tg rd st fr 0 1 (upd wy 0 (nI fr)) (upd sn fr 1) := by
  have un : ∀ t, t ≠ fr → upd sn fr 1 t = sn t := fun t ht => pk_un ht
  refine ⟨fun t ht => ?_, fun t ht z => ?_, fun j hj => ?_, fun t ht z => ?_, ?_, fun t ht z => ?_, fun j hj => absurd hj (Nat.not_lt_zero _), Nat.zero_le _, pk_us⟩
  · by_cases e : t = fr
    · subst e; exact Or.inr pk_us
    · rw [un t e]; exact Or.inl (h0 t ht)
  · by_cases e : t = fr
    · subst e; exact hf
    · rw [un t e, h0 t ht] at z; exact absurd z (by decide)
  · rw [show j = 0 by omega]; exact ⟨fr, hf, pk_us, pk_us⟩
  · by_cases e : t = fr
    · subst e; exact ⟨0, Nat.zero_lt_one, pk_us⟩
    · rw [un t e, h0 t (by omega)] at z; exact absurd z (by decide)
  · rw [cnB_one (g := fun t => decide (sn t = 1)) (u := fr) (by rw [h0 fr (by omega)]; decide) (by rw [pk_us]; decide) (fun t ht => by rw [un t ht]) 61 (by omega)]
    have : cnB (fun t => decide (sn t = 1)) 61 = cnB (fun _ => false) 61 := cnB_congr 61 fun t ht => by rw [h0 t ht]; decide
    rw [this]; decide
  · by_cases e : t = fr
    · subst e; exact id
    · rw [un t e, h0 t (by omega)] at z; exact absurd z (by decide)
end BFS
