/-! The order of the values: the class's row, the model's choice of the next one. -/
/-- a comes ahead of b: by first times, then by numbers -/
def bef (fi : Nat → Int32) (a b : Nat) : Prop := (fi a).toInt < (fi b).toInt ∨ ((fi a).toInt = (fi b).toInt ∧ a < b)
theorem bef_irr {fi : Nat → Int32} {a : Nat} : ¬ bef fi a a := by unfold bef; omega
theorem bef_tr {fi : Nat → Int32} {a b c : Nat} (h : bef fi a b) (k : bef fi b c) : bef fi a c := by unfold bef at *; omega
theorem bef_tot {fi : Nat → Int32} {a b : Nat} (h : a ≠ b) : bef fi a b ∨ bef fi b a := by unfold bef; omega
theorem fO_nI {f : Nat → Int32} {a : Nat} (h : a < 24) : fO f (nI a) = f a := by
  unfold fO
  rw [if_pos (by rw [inB_nI (by omega)]; exact decide_eq_true h), nI_clamp (by omega)]
theorem rO_nI {f : Nat → Int32} {a : Nat} (h : a < 24) : rO f (nI a) = f a := by
  unfold rO
  rw [if_pos (by rw [inB_nI (by omega)]; exact decide_eq_true h), nI_clamp (by omega)]
theorem arB_nI {la : Nat → Int32} {a : Nat} (h : a < 24) : arB la (nI a) = decide (¬ la a = -2) := by
  unfold arB
  rw [inB_nI (by omega), decide_eq_true h, nI_clamp (by omega), Bool.true_and]
theorem ovB_nI {ov : Nat → Int32} {a : Nat} (h : a < 24) : ovB ov (nI a) = decide (¬ ov a = 0) := by
  unfold ovB
  rw [inB_nI (by omega), decide_eq_true h, nI_clamp (by omega), Bool.true_and]
theorem ins_hi {fi : Nat → Int32} {v : Nat} : ∀ (w : Nat) (od : Nat → Int32) (i : Nat), w < i → ins fi v w od i = od i := by
  intro w
  induction w with
  | zero => intro od i h; rw [ins]; exact pk_un (by omega)
  | succ w ih =>
    intro od i h
    by_cases q : fO fi (od w) ≤ fi v
    · rw [ins, if_pos q]; exact pk_un (by omega)
    · rw [ins, if_neg q, ih _ i (by omega)]; exact pk_un (by omega)
theorem ins_spec {fi : Nat → Int32} {v : Nat} : ∀ (w : Nat) (od : Nat → Int32), ∃ p, p ≤ w ∧ (∀ i, i < p → ins fi v w od i = od i) ∧ ins fi v w od p = nI v ∧ (∀ i, p < i → i ≤ w → ins fi v w od i = od (i - 1)) ∧ (p = 0 ∨ fO fi (od (p - 1)) ≤ fi v) ∧ ∀ i, p ≤ i → i < w → ¬ fO fi (od i) ≤ fi v := by
  intro w
  induction w with
  | zero => intro od; exact ⟨0, Nat.le_refl 0, fun i h => absurd h (Nat.not_lt_zero _), by rw [ins]; exact pk_us, fun i h1 h2 => by omega, Or.inl rfl, fun i _ h => absurd h (Nat.not_lt_zero _)⟩
  | succ w ih =>
    intro od
    by_cases q : fO fi (od w) ≤ fi v
    · refine ⟨w + 1, Nat.le_refl _, fun i h => ?_, ?_, fun i h1 h2 => by omega, Or.inr q, fun i h1 h2 => by omega⟩
      · rw [ins, if_pos q]; exact pk_un (by omega)
      · rw [ins, if_pos q]; exact pk_us
    · obtain ⟨p, h1, h2, h3, h4, h5, h6⟩ := ih (upd od (w + 1) (od w))
      have eo : ∀ i, i ≤ w → upd od (w + 1) (od w) i = od i := fun i hi => pk_un (by omega)
      refine ⟨p, by omega, fun i h => ?_, ?_, fun i g1 g2 => ?_, ?_, fun i g1 g2 => ?_⟩
      · rw [ins, if_neg q, h2 i h, eo i (by omega)]
      · rw [ins, if_neg q, h3]
      · rw [ins, if_neg q]
        by_cases e : i = w + 1
        · subst e; rw [ins_hi _ _ _ (by omega), pk_us]; rfl
        · rw [h4 i g1 (by omega), eo _ (by omega)]
      · rcases h5 with h5 | h5
        · exact Or.inl h5
        · by_cases e : p = 0
          · exact Or.inl e
          · rw [eo _ (by omega)] at h5; exact Or.inr h5
      · by_cases e : i = w
        · subst e; exact q
        · have := h6 i g1 (by omega)
          rw [eo i (by omega)] at this
          exact this
/-- the row od holds, in their order, just the values below v that are -/
def ordd (fi la : Nat → Int32) (v w : Nat) (od : Nat → Int32) : Prop :=
  w ≤ v ∧ (∀ i, i < w → ∃ a, a < v ∧ od i = nI a ∧ arB la (nI a) = true) ∧ (∀ i j a b, i < j → j < w → od i = nI a → od j = nI b → a < 24 → b < 24 → bef fi a b) ∧ ∀ a, a < v → arB la (nI a) = true → ∃ i, i < w ∧ od i = nI a
theorem ordd_ins {fi la : Nat → Int32} {v w : Nat} {od : Nat → Int32} (hv : v < 24) (h : ordd fi la v w od) (ha : arB la (nI v) = true) : ordd fi la (v + 1) (w + 1) (ins fi v w od) := by
  obtain ⟨h1, h2, h3, h4⟩ := h
  obtain ⟨p, p1, p2, p3, p4, p5, p6⟩ := ins_spec (fi := fi) (v := v) w od
  have inj : ∀ {a b : Nat}, a < 24 → b < 24 → nI a = nI b → a = b := fun ha hb e => nI_inj (by omega) (by omega) e
  -- where an entry comes from
  have src : ∀ i, i < w + 1 → (i < p ∧ ins fi v w od i = od i) ∨ (i = p ∧ ins fi v w od i = nI v) ∨ (p < i ∧ i - 1 < w ∧ ins fi v w od i = od (i - 1)) := by
    intro i hi
    rcases Nat.lt_trichotomy i p with g | g | g
    · exact Or.inl ⟨g, p2 i g⟩
    · subst g; exact Or.inr (Or.inl ⟨rfl, p3⟩)
    · exact Or.inr (Or.inr ⟨g, by omega, p4 i g (by omega)⟩)
  -- what stands ahead of p is not above v; what stands from p on is
  have lo : ∀ i a, i < p → od i = nI a → a < v → bef fi a v := by
    intro i a hi e av
    have hp0 : p ≠ 0 := by omega
    have q : fO fi (od (p - 1)) ≤ fi v := p5.resolve_left hp0
    obtain ⟨b, bv, eb, -⟩ := h2 (p - 1) (by omega)
    rw [eb, fO_nI (by omega), Int32.le_iff_toInt_le] at q
    by_cases e2 : i = p - 1
    · subst e2
      have : a = b := inj (by omega) (by omega) (e.symm.trans eb)
      subst this
      unfold bef; omega
    · have := h3 i (p - 1) a b (by omega) (by omega) e eb (by omega) (by omega)
      unfold bef at *; omega
  have hi : ∀ i a, p ≤ i → i < w → od i = nI a → a < v → bef fi v a := by
    intro i a g1 g2 e av
    have q := p6 i g1 g2
    rw [e, fO_nI (by omega), Int32.le_iff_toInt_le] at q
    unfold bef; omega
  refine ⟨by omega, fun i hi0 => ?_, fun i j a b hij hj ea eb a24 b24 => ?_, fun a hav har => ?_⟩
  · rcases src i hi0 with ⟨g, e⟩ | ⟨g, e⟩ | ⟨g, g2, e⟩
    · obtain ⟨a, av, ea, eb⟩ := h2 i (by omega)
      exact ⟨a, by omega, e.trans ea, eb⟩
    · exact ⟨v, by omega, e, ha⟩
    · obtain ⟨a, av, ea, eb⟩ := h2 (i - 1) g2
      exact ⟨a, by omega, e.trans ea, eb⟩
  · rcases src i (by omega) with ⟨g, e⟩ | ⟨g, e⟩ | ⟨g, g2, e⟩
    · obtain ⟨a', av', ea', -⟩ := h2 i (by omega)
      have : a = a' := inj a24 (by omega) (ea.symm.trans (e.trans ea'))
      subst this
      rcases src j hj with ⟨k, f⟩ | ⟨k, f⟩ | ⟨k, k2, f⟩
      · exact h3 i j a b hij (by omega) ea' (f.symm.trans eb) a24 b24
      · have : b = v := inj b24 hv (eb.symm.trans f)
        subst this
        exact lo i a g ea' av'
      · exact h3 i (j - 1) a b (by omega) (by omega) ea' (f.symm.trans eb) a24 b24
    · have : a = v := inj a24 hv (ea.symm.trans e)
      subst this
      rcases src j hj with ⟨k, f⟩ | ⟨k, f⟩ | ⟨k, k2, f⟩
      · omega
      · omega
      · obtain ⟨b', bv', eb', -⟩ := h2 (j - 1) k2
        have : b = b' := inj b24 (by omega) (eb.symm.trans (f.trans eb'))
        subst this
        exact hi (j - 1) b (by omega) k2 eb' bv'
    · rcases src j hj with ⟨k, f⟩ | ⟨k, f⟩ | ⟨k, k2, f⟩
      · omega
      · omega
      · exact h3 (i - 1) (j - 1) a b (by omega) k2 (e.symm.trans ea) (f.symm.trans eb) a24 b24
  · by_cases e : a = v
    · subst e; exact ⟨p, by omega, p3⟩
    · obtain ⟨i, hi0, ei⟩ := h4 a (by omega) har
      by_cases g : i < p
      · exact ⟨i, by omega, (p2 i g).trans ei⟩
      · exact ⟨i + 1, by omega, (p4 (i + 1) (by omega) (by omega)).trans ei⟩
theorem ordd_skip {fi la : Nat → Int32} {v w : Nat} {od : Nat → Int32} (h : ordd fi la v w od) (ha : ¬ arB la (nI v) = true) : ordd fi la (v + 1) w od := by
  obtain ⟨h1, h2, h3, h4⟩ := h
  refine ⟨by omega, fun i hi => ?_, h3, fun a hav har => ?_⟩
  · obtain ⟨a, av, e⟩ := h2 i hi
    exact ⟨a, by omega, e⟩
  · by_cases e : a = v
    · subst e; exact absurd har ha
    · exact h4 a (by omega) har
theorem odO_ok {fi la : Nat → Int32} : ∀ (q v w : Nat) (od : Nat → Int32), q + v = 24 → ordd fi la v w od → ordd fi la 24 (odO fi la q v w od).1 (odO fi la q v w od).2 := by
  intro q
  induction q with
  | zero => intro v w od hq h; rw [show v = 24 by omega] at h; exact h
  | succ q ih =>
    intro v w od hq h
    by_cases g : arB la (nI v) = true
    · rw [odO, if_pos g]; exact ih _ _ _ (by omega) (ordd_ins (by omega) h g)
    · rw [odO, if_neg g]; exact ih _ _ _ (by omega) (ordd_skip h g)
theorem ordd_0 {fi la od : Nat → Int32} : ordd fi la 0 0 od := ⟨Nat.le_refl 0, fun i h => absurd h (Nat.not_lt_zero _), fun i j a b _ h => absurd h (Nat.not_lt_zero _), fun a h => absurd h (Nat.not_lt_zero _)⟩
/-- THE CLASS'S ORDER -/
theorem odO_all (fi la od : Nat → Int32) : ordd fi la 24 (odO fi la 24 0 0 od).1 (odO fi la 24 0 0 od).2 := odO_ok 24 0 0 od rfl ordd_0
/-- the model's choice: q values are left, v the next, b the best so far -/
def nO (may : Nat → Bool) (fi : Nat → Int32) : Nat → Nat → Int32 → Int32
  | 0, _, b => b
  | q + 1, v, b => if may v = true ∧ (b = -1 ∨ fi v < fi b.toNatClampNeg) then nO may fi q (v + 1) (nI v) else nO may fi q (v + 1) b
theorem nI_ne_m1 {a : Nat} (h : a < 2 ^ 31) : nI a ≠ -1 := by
  intro e
  have := congrArg Int32.toInt e
  rw [nI_toInt h, show ((-1 : Int32)).toInt = -1 from by decide] at this
  omega
theorem nO_ok {may : Nat → Bool} {fi : Nat → Int32} : ∀ (q v : Nat) (b : Int32), q + v = 24 →
    ((b = -1 ∧ ∀ a, a < v → may a = false) ∨ ∃ a, a < v ∧ b = nI a ∧ may a = true ∧ ∀ c, c < v → may c = true → c ≠ a → bef fi a c) →
    ((nO may fi q v b = -1 ∧ ∀ a, a < 24 → may a = false) ∨ ∃ a, a < 24 ∧ nO may fi q v b = nI a ∧ may a = true ∧ ∀ c, c < 24 → may c = true → c ≠ a → bef fi a c) := by
  intro q
  induction q with
  | zero => intro v b hq h; rw [show v = 24 by omega] at h; exact h
  | succ q ih =>
    intro v b hq h
    by_cases g : may v = true ∧ (b = -1 ∨ fi v < fi b.toNatClampNeg)
    · rw [nO, if_pos g]
      refine ih _ _ (by omega) (Or.inr ⟨v, by omega, rfl, g.1, fun c hc hm hne => ?_⟩)
      rcases h with ⟨e, h0⟩ | ⟨a, av, e, ma, hmin⟩
      · rw [h0 c (by omega)] at hm; exact absurd hm (by decide)
      · have g2 := g.2.resolve_left (by rw [e]; exact nI_ne_m1 (by omega))
        rw [e, nI_clamp (by omega), Int32.lt_iff_toInt_lt] at g2
        by_cases ca : c = a
        · subst ca; unfold bef; omega
        · have := hmin c (by omega) hm ca
          unfold bef at *; omega
    · rw [nO, if_neg g]
      refine ih _ _ (by omega) ?_
      rcases h with ⟨e, h0⟩ | ⟨a, av, e, ma, hmin⟩
      · refine Or.inl ⟨e, fun c hc => ?_⟩
        by_cases cv : c = v
        · subst cv
          cases hm : may c with
          | false => rfl
          | true => exact absurd ⟨hm, Or.inl e⟩ g
        · exact h0 c (by omega)
      · refine Or.inr ⟨a, by omega, e, ma, fun c hc hm hne => ?_⟩
        by_cases cv : c = v
        · subst cv
          have : ¬ fi c < fi a := by
            intro z
            exact g ⟨hm, Or.inr (by rw [e, nI_clamp (by omega)]; exact z)⟩
          rw [Int32.lt_iff_toInt_lt] at this
          unfold bef; omega
        · exact hmin c (by omega) hm hne
theorem nO_all (may : Nat → Bool) (fi : Nat → Int32) : (nO may fi 24 0 (-1) = -1 ∧ ∀ a, a < 24 → may a = false) ∨ ∃ a, a < 24 ∧ nO may fi 24 0 (-1) = nI a ∧ may a = true ∧ ∀ c, c < 24 → may c = true → c ≠ a → bef fi a c :=
  nO_ok 24 0 (-1) rfl (Or.inl ⟨rfl, fun a h => absurd h (Nat.not_lt_zero _)⟩)
