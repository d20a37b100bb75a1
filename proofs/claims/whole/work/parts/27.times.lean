/-! The model's times are the class's. -/
/-- of value v: neither is, or both are, with the same times, all below T -/
def tR (fi la mf ml mi : Nat → Int32) (v : Nat) (T : Int) : Prop := (mi v = 0 ∧ la v = -2) ∨ (mi v = 1 ∧ mf v = fi v ∧ ml v = la v ∧ (-1 : Int) ≤ (fi v).toInt ∧ (fi v).toInt ≤ (la v).toInt ∧ (la v).toInt < T)
theorem m2_lt {x : Int32} (h : (-1 : Int) ≤ x.toInt) : ¬ x = -2 := by
  intro e; rw [e, show ((-2 : Int32)).toInt = -2 from by decide] at h; omega
theorem tR_mono {fi la mf ml mi : Nat → Int32} {v : Nat} {T T' : Int} (h : tR fi la mf ml mi v T) (hT : T ≤ T') : tR fi la mf ml mi v T' := by
  rcases h with h | ⟨a, b, c, d, e, f⟩
  · exact Or.inl h
  · exact Or.inr ⟨a, b, c, d, e, by omega⟩
theorem tR_note {fi la mf ml mi : Nat → Int32} {v : Nat} {T : Int} {t : Int32} (h : tR fi la mf ml mi v T) (hT : T ≤ t.toInt) (ht : (-1 : Int) ≤ t.toInt) : tR (nF fi la v t) (upd la v t) (tmF mf mi v t) (tmL ml mi v t) (upd mi v 1) v (t.toInt + 1) := by
  rcases h with ⟨a, b⟩ | ⟨a, b, c, d, e, f⟩
  · refine Or.inr ⟨pk_us, ?_, ?_, ?_, ?_, ?_⟩
    · rw [nF, if_pos b, tmF, if_pos a, pk_us, pk_us]
    · rw [tmL, if_pos a, pk_us, pk_us]
    · rw [nF, if_pos b, pk_us]; exact ht
    · rw [nF, if_pos b, pk_us, pk_us]; exact Int.le_refl _
    · rw [pk_us]; omega
  · have h0 : ¬ mi v = 0 := by rw [a]; decide
    have h2 : ¬ la v = -2 := m2_lt (by omega)
    refine Or.inr ⟨pk_us, ?_, ?_, ?_, ?_, ?_⟩
    · rw [nF, if_neg h2, tmF, if_neg h0, if_pos (by rw [Int32.le_iff_toInt_le, b]; omega), b]
    · rw [tmL, if_neg h0, if_neg (by rw [Int32.le_iff_toInt_le, c]; omega), pk_us, pk_us]
    · rw [nF, if_neg h2]; exact d
    · rw [nF, if_neg h2, pk_us]; omega
    · rw [pk_us]; omega
section TMS
variable {n : Nat} {fk fa ff : Nat → Int32} {v : Nat} {rd : Nat → Bool}
/-- from op k on, k not the first -/
theorem tR_from (hn : n ≤ 60) (st : Nat → Bool) (hst : ∀ k, k < n → (st k = true ↔ sA n fk fa (nI k) = nI v)) (hrd : ∀ k, k < n → rd k = true → hasB ff (nI k) (nI v) = true) : ∀ (q k : Nat) (fi la : Nat → Int32) (s : M3), q + k = n → 1 ≤ k → tR fi la s.1 s.2.1 s.2.2 v (2 * k : Int) →
    tR (ftK n fk fa ff v q k fi la).1 (ftK n fk fa ff v q k fi la).2 (mtK (fun k => hasB ff (nI k) (nI v)) rd st v q k s).1 (mtK (fun k => hasB ff (nI k) (nI v)) rd st v q k s).2.1 (mtK (fun k => hasB ff (nI k) (nI v)) rd st v q k s).2.2 v (2 * n : Int) := by
  intro q
  induction q with
  | zero => intro k fi la s hq hk h; rw [show k = n by omega] at h; exact h
  | succ q ih =>
    intro k fi la s hq hk h
    have e1 : (nI (2 * k)).toInt = 2 * (k : Int) := by rw [nI_toInt (by omega)]; omega
    have e2 : (nI (2 * k + 1)).toInt = 2 * (k : Int) + 1 := by rw [nI_toInt (by omega)]; omega
    have hk0 : ¬ k = 0 := by omega
    by_cases hb : hasB ff (nI k) (nI v) = true
    · have s1 := tR_note (t := nI (2 * k)) h (by omega) (by omega)
      by_cases hs : st k = true
      · have s2 := tR_note (t := nI (2 * k + 1)) s1 (by omega) (by omega)
        rw [ftK, if_pos hb, if_pos ((hst k (by omega)).mp hs), mtK]
        simp only [if_pos hs, if_pos hb, if_neg hk0]
        exact ih (k + 1) _ _ _ (by omega) (by omega) (tR_mono s2 (by push_cast; omega))
      · rw [ftK, if_pos hb, if_neg (fun z => hs ((hst k (by omega)).mpr z)), mtK]
        simp only [if_neg hs, if_pos hb, if_neg hk0]
        exact ih (k + 1) _ _ _ (by omega) (by omega) (tR_mono s1 (by push_cast; omega))
    · have hr : ¬ rd k = true := fun z => hb (hrd k (by omega) z)
      by_cases hs : st k = true
      · have s2 := tR_note (t := nI (2 * k + 1)) h (by omega) (by omega)
        rw [ftK, if_neg hb, if_pos ((hst k (by omega)).mp hs), mtK]
        simp only [if_pos hs, if_neg hb, if_neg hr]
        exact ih (k + 1) _ _ _ (by omega) (by omega) (tR_mono s2 (by push_cast; omega))
      · rw [ftK, if_neg hb, if_neg (fun z => hs ((hst k (by omega)).mpr z)), mtK]
        simp only [if_neg hs, if_neg hb, if_neg hr]
        exact ih (k + 1) _ _ _ (by omega) (by omega) (tR_mono h (by push_cast; omega))
/-- all of it -/
theorem tR_all (hn : n ≤ 60) (st : Nat → Bool) (hst : ∀ k, k < n → (st k = true ↔ sA n fk fa (nI k) = nI v)) (hrd : ∀ k, k < n → rd k = true → hasB ff (nI k) (nI v) = true) (h00 : n = 0 → ¬ hasB ff 0 (nI v) = true) (fi la : Nat → Int32) (s : M3) (hl : la v = -2) (hi : s.2.2 v = 0) :
    tR (ftK n fk fa ff v n 0 (ft0 ff fi la v).1 (ft0 ff fi la v).2).1 (ftK n fk fa ff v n 0 (ft0 ff fi la v).1 (ft0 ff fi la v).2).2 (mtK (fun k => hasB ff (nI k) (nI v)) rd st v n 0 s).1 (mtK (fun k => hasB ff (nI k) (nI v)) rd st v n 0 s).2.1 (mtK (fun k => hasB ff (nI k) (nI v)) rd st v n 0 s).2.2 v (2 * n : Int) := by
  have h0 : tR fi la s.1 s.2.1 s.2.2 v (-1) := Or.inl ⟨hi, hl⟩
  have em : ((-1 : Int32)).toInt = -1 := by decide
  have e1 : (nI (2 * 0)).toInt = 0 := by decide
  have e2 : (nI (2 * 0 + 1)).toInt = 1 := by decide
  cases n with
  | zero =>
    rw [ft0, if_neg (h00 rfl)]
    exact Or.inl ⟨hi, hl⟩
  | succ n' =>
    by_cases hb : hasB ff (nI 0) (nI v) = true
    · have sm := tR_note (t := -1) h0 (by omega) (by omega)
      have s1 := tR_note (t := nI (2 * 0)) sm (by omega) (by omega)
      have hb' : hasB ff 0 (nI v) = true := hb
      rw [ft0, if_pos hb']
      by_cases hs : st 0 = true
      · have s2 := tR_note (t := nI (2 * 0 + 1)) s1 (by omega) (by omega)
        rw [ftK, if_pos hb, if_pos ((hst 0 (by omega)).mp hs), mtK]
        simp only [if_pos hs, if_pos hb, if_true]
        exact tR_from hn st hst hrd n' 1 _ _ _ (by omega) (by omega) (tR_mono s2 (by omega))
      · rw [ftK, if_pos hb, if_neg (fun z => hs ((hst 0 (by omega)).mpr z)), mtK]
        simp only [if_neg hs, if_pos hb, if_true]
        exact tR_from hn st hst hrd n' 1 _ _ _ (by omega) (by omega) (tR_mono s1 (by omega))
    · have hr : ¬ rd 0 = true := fun z => hb (hrd 0 (by omega) z)
      have hb' : ¬ hasB ff 0 (nI v) = true := hb
      rw [ft0, if_neg hb']
      by_cases hs : st 0 = true
      · have s2 := tR_note (t := nI (2 * 0 + 1)) h0 (by omega) (by omega)
        rw [ftK, if_neg hb, if_pos ((hst 0 (by omega)).mp hs), mtK]
        simp only [if_pos hs, if_neg hb, if_neg hr]
        exact tR_from hn st hst hrd n' 1 _ _ _ (by omega) (by omega) (tR_mono s2 (by omega))
      · rw [ftK, if_neg hb, if_neg (fun z => hs ((hst 0 (by omega)).mpr z)), mtK]
        simp only [if_neg hs, if_neg hb, if_neg hr]
        exact tR_from hn st hst hrd n' 1 _ _ _ (by omega) (by omega) (tR_mono h0 (by omega))
end TMS
/-- other values keep theirs -/
theorem nF_ne {fi la : Nat → Int32} {v w : Nat} {t : Int32} (h : w ≠ v) : nF fi la v t w = fi w := by
  unfold nF
  by_cases e : la v = -2
  · rw [if_pos e, pk_un h]
  · rw [if_neg e]
theorem ftK_ne {n : Nat} {fk fa ff : Nat → Int32} {v w : Nat} (h : w ≠ v) : ∀ (q k : Nat) (fi la : Nat → Int32), (ftK n fk fa ff v q k fi la).1 w = fi w ∧ (ftK n fk fa ff v q k fi la).2 w = la w := by
  intro q
  induction q with
  | zero => intro k fi la; exact ⟨rfl, rfl⟩
  | succ q ih =>
    intro k fi la
    by_cases hb : hasB ff (nI k) (nI v) = true
    · by_cases hs : sA n fk fa (nI k) = nI v
      · rw [ftK, if_pos hb, if_pos hs, (ih _ _ _).1, (ih _ _ _).2, nF_ne h, nF_ne h, pk_un h, pk_un h]; exact ⟨rfl, rfl⟩
      · rw [ftK, if_pos hb, if_neg hs, (ih _ _ _).1, (ih _ _ _).2, nF_ne h, pk_un h]; exact ⟨rfl, rfl⟩
    · by_cases hs : sA n fk fa (nI k) = nI v
      · rw [ftK, if_neg hb, if_pos hs, (ih _ _ _).1, (ih _ _ _).2, nF_ne h, pk_un h]; exact ⟨rfl, rfl⟩
      · rw [ftK, if_neg hb, if_neg hs]; exact ih _ _ _
theorem ft0_ne {ff fi la : Nat → Int32} {v w : Nat} (h : w ≠ v) : (ft0 ff fi la v).1 w = fi w ∧ (ft0 ff fi la v).2 w = la w := by
  unfold ft0
  by_cases e : hasB ff 0 (nI v) = true
  · rw [if_pos e]; exact ⟨nF_ne h, pk_un h⟩
  · rw [if_neg e]; exact ⟨rfl, rfl⟩
theorem tm3_ne {s : M3} {v w : Nat} {t : Int32} (h : w ≠ v) : (tm3 s v t).1 w = s.1 w ∧ (tm3 s v t).2.1 w = s.2.1 w ∧ (tm3 s v t).2.2 w = s.2.2 w := by
  unfold tm3 tmF tmL
  refine ⟨?_, ?_, pk_un h⟩
  · by_cases a : s.2.2 v = 0
    · simp only [if_pos a]; exact pk_un h
    · by_cases b : s.1 v ≤ t
      · simp only [if_neg a, if_pos b]
      · simp only [if_neg a, if_neg b]; exact pk_un h
  · by_cases a : s.2.2 v = 0
    · simp only [if_pos a]; exact pk_un h
    · by_cases b : t ≤ s.2.1 v
      · simp only [if_neg a, if_pos b]
      · simp only [if_neg a, if_neg b]; exact pk_un h
theorem mtK_ne {hb rd st : Nat → Bool} {v w : Nat} (h : w ≠ v) : ∀ (q k : Nat) (s : M3), (mtK hb rd st v q k s).1 w = s.1 w ∧ (mtK hb rd st v q k s).2.1 w = s.2.1 w ∧ (mtK hb rd st v q k s).2.2 w = s.2.2 w := by
  intro q
  induction q with
  | zero => intro k s; exact ⟨rfl, rfl, rfl⟩
  | succ q ih =>
    intro k s
    have key : ∀ s' : M3, (s'.1 w = s.1 w ∧ s'.2.1 w = s.2.1 w ∧ s'.2.2 w = s.2.2 w) → (mtK hb rd st v q (k + 1) s').1 w = s.1 w ∧ (mtK hb rd st v q (k + 1) s').2.1 w = s.2.1 w ∧ (mtK hb rd st v q (k + 1) s').2.2 w = s.2.2 w := fun s' e => ⟨(ih _ s').1.trans e.1, (ih _ s').2.1.trans e.2.1, (ih _ s').2.2.trans e.2.2⟩
    have up : ∀ (s' : M3) (t : Int32), (s'.1 w = s.1 w ∧ s'.2.1 w = s.2.1 w ∧ s'.2.2 w = s.2.2 w) → ((tm3 s' v t).1 w = s.1 w ∧ (tm3 s' v t).2.1 w = s.2.1 w ∧ (tm3 s' v t).2.2 w = s.2.2 w) := fun s' t e => ⟨(tm3_ne h).1.trans e.1, (tm3_ne h).2.1.trans e.2.1, (tm3_ne h).2.2.trans e.2.2⟩
    have r0 : s.1 w = s.1 w ∧ s.2.1 w = s.2.1 w ∧ s.2.2 w = s.2.2 w := ⟨rfl, rfl, rfl⟩
    have a0 : ∀ P : Prop, ∀ [Decidable P], ((if P then tm3 s v (-1) else s : M3).1 w = s.1 w ∧ (if P then tm3 s v (-1) else s : M3).2.1 w = s.2.1 w ∧ (if P then tm3 s v (-1) else s : M3).2.2 w = s.2.2 w) := by
      intro P _
      by_cases e : P
      · rw [if_pos e]; exact up _ _ r0
      · rw [if_neg e]; exact r0
    rw [mtK]
    by_cases hs : st k = true
    · simp only [if_pos hs]
      by_cases hb' : hb k = true
      · simp only [if_pos hb']; exact key _ (up _ _ (up _ _ (a0 _)))
      · simp only [if_neg hb']
        by_cases hr : rd k = true
        · simp only [if_pos hr]; exact key _ (up _ _ (up _ _ r0))
        · simp only [if_neg hr]; exact key _ (up _ _ r0)
    · simp only [if_neg hs]
      by_cases hb' : hb k = true
      · simp only [if_pos hb']; exact key _ (up _ _ (a0 _))
      · simp only [if_neg hb']
        by_cases hr : rd k = true
        · simp only [if_pos hr]; exact key _ (up _ _ r0)
        · simp only [if_neg hr]; exact key _ r0
/-- at each value the class's times are those of its own turn -/
theorem ftO_at {n : Nat} {fk fa ff : Nat → Int32} : ∀ (q v0 : Nat) (gi gl : Nat → Int32), q + v0 = 24 → (∀ w, v0 ≤ w → w < 24 → gl w = -2) → ∀ w, w < 24 →
    (w < v0 → (ftO n fk fa ff q v0 gi gl).1 w = gi w ∧ (ftO n fk fa ff q v0 gi gl).2 w = gl w) ∧
    (v0 ≤ w → ∃ hi hl : Nat → Int32, hl w = -2 ∧ (ftO n fk fa ff q v0 gi gl).1 w = (ftK n fk fa ff w n 0 (ft0 ff hi hl w).1 (ft0 ff hi hl w).2).1 w ∧ (ftO n fk fa ff q v0 gi gl).2 w = (ftK n fk fa ff w n 0 (ft0 ff hi hl w).1 (ft0 ff hi hl w).2).2 w) := by
  intro q
  induction q with
  | zero => intro v0 gi gl hq _ w hw; exact ⟨fun _ => ⟨rfl, rfl⟩, fun z => by omega⟩
  | succ q ih =>
    intro v0 gi gl hq hg w hw
    have one : ∀ w, w ≠ v0 → (ftK n fk fa ff v0 n 0 (ft0 ff gi gl v0).1 (ft0 ff gi gl v0).2).1 w = gi w ∧ (ftK n fk fa ff v0 n 0 (ft0 ff gi gl v0).1 (ft0 ff gi gl v0).2).2 w = gl w := fun w hw => ⟨(ftK_ne hw _ _ _ _).1.trans (ft0_ne hw).1, (ftK_ne hw _ _ _ _).2.trans (ft0_ne hw).2⟩
    have key := ih (v0 + 1) (ftK n fk fa ff v0 n 0 (ft0 ff gi gl v0).1 (ft0 ff gi gl v0).2).1 (ftK n fk fa ff v0 n 0 (ft0 ff gi gl v0).1 (ft0 ff gi gl v0).2).2 (by omega) (fun w h1 h2 => ((one w (by omega)).2).trans (hg w (by omega) h2)) w hw
    rw [ftO]
    refine ⟨fun z => ?_, fun z => ?_⟩
    · have k1 := key.1 (by omega)
      exact ⟨k1.1.trans (one w (by omega)).1, k1.2.trans (one w (by omega)).2⟩
    · by_cases e : w = v0
      · subst e
        have k1 := key.1 (by omega)
        exact ⟨gi, gl, hg w (Nat.le_refl _) hw, k1.1, k1.2⟩
      · exact key.2 (by omega)
