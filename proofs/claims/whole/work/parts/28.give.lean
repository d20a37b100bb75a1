/-! Over a call, how many values are, and one value's register and slot: class and model alike. -/
/-- of value b: both have it, with the same times -/
def eqv (fi la mf ml : Nat → Int32) (b : Nat) : Prop := mf b = fi b ∧ ml b = la b ∧ (-1 : Int) ≤ (fi b).toInt ∧ ¬ la b = -2
theorem ocK_ne {n : Nat} {fk fi la : Nat → Int32} {v w : Nat} (h : w ≠ v) : ∀ (q k : Nat) (ov : Nat → Int32), ocK n fk fi la v q k ov w = ov w := by
  intro q
  induction q with
  | zero => intro k ov; rfl
  | succ q ih =>
    intro k ov
    by_cases c : kA n fk (nI k) = 9 ∧ arB la (nI v) = true ∧ ¬ nI (2 * k) < fi v ∧ ¬ la v ≤ nI (2 * k)
    · rw [ocK, if_pos c, ih, pk_un h]
    · rw [ocK, if_neg c, ih]
theorem moK_ne {fk mf ml mi : Nat → Int32} {v w : Nat} (h : w ≠ v) : ∀ (q k : Nat) (mo : Nat → Int32), moK fk mf ml mi v q k mo w = mo w := by
  intro q
  induction q with
  | zero => intro k mo; rfl
  | succ q ih => intro k mo; rw [moK, ih, pk_un h]
theorem ov_eq {n : Nat} {fk fi la mf ml mi : Nat → Int32} {v : Nat} (hn : n ≤ 60) (hv : v < 24) (hr : (mi v = 0 ∧ la v = -2) ∨ (¬ mi v = 0 ∧ eqv fi la mf ml v)) : ∀ (q k : Nat) (ov mo : Nat → Int32), q + k = n → ov v = mo v → (mo v = 0 ∨ mo v = 1) → ocK n fk fi la v q k ov v = moK fk mf ml mi v q k mo v := by
  intro q
  induction q with
  | zero => intro k ov mo _ e _; exact e
  | succ q ih =>
    intro k ov mo hq e h01
    have hk : kA n fk (nI k) = fk k := kA_nI (by omega) hn
    rw [ocK, moK]
    by_cases c : kA n fk (nI k) = 9 ∧ arB la (nI v) = true ∧ ¬ nI (2 * k) < fi v ∧ ¬ la v ≤ nI (2 * k)
    · rw [if_pos c]
      obtain ⟨c1, c2, c3, c4⟩ := c
      rw [hk] at c1
      rw [arB_nI hv] at c2
      have c2 := of_decide_eq_true c2
      rcases hr with ⟨-, z⟩ | ⟨z1, z2, z3, -, -⟩
      · exact absurd z c2
      · refine ih (k + 1) _ _ (by omega) ?_ ?_
        · rw [pk_us, pk_us, if_pos c1, if_neg z1, z2, if_neg c3, z3, if_neg c4]
          by_cases m0 : mo v = 0
          · rw [if_pos m0]
          · rw [if_neg m0]
        · rw [pk_us, if_pos c1, if_neg z1, z2, if_neg c3, z3, if_neg c4]
          by_cases m0 : mo v = 0
          · rw [if_pos m0]; exact Or.inr rfl
          · rw [if_neg m0]; exact Or.inr rfl
    · rw [if_neg c]
      have inner : (if fk k = 9 then (if mi v = 0 then 0 else if nI (2 * k) < mf v then 0 else if ml v ≤ nI (2 * k) then 0 else 1) else (0 : Int32)) = 0 := by
        by_cases k9 : fk k = 9
        · rw [if_pos k9]
          by_cases m0 : mi v = 0
          · rw [if_pos m0]
          · rw [if_neg m0]
            rcases hr with ⟨z, -⟩ | ⟨-, z2, z3, -, z5⟩
            · exact absurd z m0
            · by_cases a : nI (2 * k) < mf v
              · rw [if_pos a]
              · rw [if_neg a]
                by_cases b : ml v ≤ nI (2 * k)
                · rw [if_pos b]
                · exfalso
                  rw [z2] at a; rw [z3] at b
                  exact c ⟨by rw [hk]; exact k9, by rw [arB_nI hv]; exact decide_eq_true z5, a, b⟩
        · rw [if_neg k9]
      refine ih (k + 1) _ _ (by omega) ?_ ?_
      · rw [pk_us, inner]
        rcases h01 with m0 | m1
        · rw [if_pos m0, e, m0]
        · rw [if_neg (by rw [m1]; decide), e, m1]
      · rw [pk_us, inner]
        rcases h01 with m0 | m1
        · rw [if_pos m0]; exact Or.inl rfl
        · rw [if_neg (by rw [m1]; decide)]; exact Or.inr rfl
theorem ocO_at {n : Nat} {fk fi la : Nat → Int32} : ∀ (q v0 : Nat) (ov : Nat → Int32), q + v0 = 24 → ∀ w, w < 24 →
    (w < v0 → ocO n fk fi la q v0 ov w = ov w) ∧ (v0 ≤ w → ∃ h : Nat → Int32, ocO n fk fi la q v0 ov w = ocK n fk fi la w n 0 (upd h w 0) w) := by
  intro q
  induction q with
  | zero => intro v0 ov hq w hw; exact ⟨fun _ => rfl, fun z => by omega⟩
  | succ q ih =>
    intro v0 ov hq w hw
    have key := ih (v0 + 1) (ocK n fk fi la v0 n 0 (upd ov v0 0)) (by omega) w hw
    rw [ocO]
    refine ⟨fun z => ?_, fun z => ?_⟩
    · rw [key.1 (by omega), ocK_ne (by omega), pk_un (by omega)]
    · by_cases e : w = v0
      · subst e; exact ⟨ov, key.1 (by omega)⟩
      · exact key.2 (by omega)
theorem odO_cnt {fi la : Nat → Int32} : ∀ (q v w : Nat) (od : Nat → Int32), q + v = 24 → w = cnB (fun a => arB la (nI a)) v → (odO fi la q v w od).1 = cnB (fun a => arB la (nI a)) 24 := by
  intro q
  induction q with
  | zero => intro v w od hq e; rw [show v = 24 by omega] at e; exact e
  | succ q ih =>
    intro v w od hq e
    by_cases g : arB la (nI v) = true
    · rw [odO, if_pos g]; exact ih _ _ _ (by omega) (by rw [cnB, if_pos g, e])
    · rw [odO, if_neg g]; exact ih _ _ _ (by omega) (by rw [cnB, if_neg g, e]; rfl)
section GIV
variable {fi la mf ml rh mh : Nat → Int32} {a : Nat}
/-- a holder: none, or a value that both have -/
def hOk (fi la mf ml mh : Nat → Int32) (r : Nat) : Prop := mh r = -1 ∨ ∃ b, b < 24 ∧ mh r = nI b ∧ eqv fi la mf ml b
theorem fO_m1 (f : Nat → Int32) : fO f (-1) = -2 := by
  unfold fO; rw [if_neg (by decide)]
theorem free_iff (ha : a < 24) (he : eqv fi la mf ml a) {r : Nat} (hh : hOk fi la mf ml mh r) (e : rh r = mh r) : (fO fi (nI a) ≤ fO la (rh r)) ↔ (¬ mh r = -1 ∧ mf a ≤ ml (mh r).toNatClampNeg) := by
  rw [fO_nI ha, e]
  rcases hh with h | ⟨b, hb, h, hbe⟩
  · rw [h, fO_m1]
    constructor
    · intro z
      rw [Int32.le_iff_toInt_le, show ((-2 : Int32)).toInt = -2 from by decide] at z
      have := he.2.2.1; omega
    · intro z; exact absurd rfl z.1
  · rw [h, fO_nI hb, nI_clamp (by omega), he.1, hbe.2.1]
    exact ⟨fun z => ⟨nI_ne_m1 (by omega), z⟩, fun z => z.2⟩
theorem last_eq {r : Nat} (hh : hOk fi la mf ml mh r) (e : rh r = mh r) (hn : ¬ mh r = -1) : fO la (rh r) = ml (mh r).toNatClampNeg := by
  rcases hh with h | ⟨b, hb, h, hbe⟩
  · exact absurd h hn
  · rw [e, h, fO_nI hb, nI_clamp (by omega), hbe.2.1]
/-- from place r on, with w the one held longest so far -/
theorem mgL_eq (ha : a < 24) (he : eqv fi la mf ml a) {N : Nat} (hh : ∀ r, r < N → hOk fi la mf ml mh r) (e : ∀ r, r < N → rh r = mh r) : ∀ (q r w : Nat), q + r = N → 1 ≤ r → w < r → ¬ mh w = -1 →
    (∃ p, mgL mf ml mh (nI a) q r w = (true, p) ∧ p < N ∧ lF fi la rh (nI a) q r = nI p) ∨ (∃ p, mgL mf ml mh (nI a) q r w = (false, p) ∧ p < N ∧ ¬ mh p = -1 ∧ lF fi la rh (nI a) q r = -1 ∧ rhl la rh q r (nI w) (fO la (rh w)) = nI p) := by
  intro q
  induction q with
  | zero => intro r w hq _ hw hm; exact Or.inr ⟨w, rfl, by omega, hm, rfl, rfl⟩
  | succ q ih =>
    intro r w hq hr hw hm
    have fr := free_iff ha he (hh r (by omega)) (e r (by omega))
    by_cases f : fO fi (nI a) ≤ fO la (rh r)
    · obtain ⟨m1, m2⟩ := fr.mp f
      rw [mgL, if_neg m1, nI_clamp (by omega), if_pos m2, lF, if_pos f, rhl]
      have l1 := last_eq (hh r (by omega)) (e r (by omega)) m1
      have l2 := last_eq (hh w (by omega)) (e w (by omega)) hm
      by_cases c : fO la (rh r) < fO la (rh w)
      · rw [if_pos c, if_pos (show ml (mh r).toNatClampNeg < ml (mh w).toNatClampNeg by rw [← l1, ← l2]; exact c)]
        exact ih (r + 1) w (by omega) (by omega) (by omega) hm
      · rw [if_neg c, if_neg (show ¬ ml (mh r).toNatClampNeg < ml (mh w).toNatClampNeg by rw [← l1, ← l2]; exact c)]
        exact ih (r + 1) r (by omega) (by omega) (by omega) m1
    · refine Or.inl ⟨r, ?_, by omega, by rw [lF, if_neg f]⟩
      by_cases m1 : mh r = -1
      · rw [mgL, if_pos m1]
      · rw [mgL, if_neg m1, nI_clamp (by omega), if_neg (fun z => f (fr.mpr ⟨m1, z⟩))]
theorem fO_ge {r : Nat} (hh : hOk fi la mf ml mh r) (e : rh r = mh r) (hla : ∀ b, b < 24 → eqv fi la mf ml b → (-2 : Int) ≤ (la b).toInt) : ¬ fO la (rh r) < -2 := by
  rw [Int32.lt_iff_toInt_lt, show ((-2 : Int32)).toInt = -2 from by decide, e]
  rcases hh with h | ⟨b, hb, h, hbe⟩
  · rw [h, fO_m1, show ((-2 : Int32)).toInt = -2 from by decide]; omega
  · rw [h, fO_nI hb]; have := hla b hb hbe; omega
theorem mgL_0 (ha : a < 24) (he : eqv fi la mf ml a) {N : Nat} (hN : 1 ≤ N) (hN8 : N ≤ 24) (hh : ∀ r, r < N → hOk fi la mf ml mh r) (e : ∀ r, r < N → rh r = mh r) (hla : ∀ b, b < 24 → eqv fi la mf ml b → (-2 : Int) ≤ (la b).toInt) :
    (∃ p, mgL mf ml mh (nI a) N 0 0 = (true, p) ∧ p < N ∧ lF fi la rh (nI a) N 0 = nI p) ∨ (∃ p, mgL mf ml mh (nI a) N 0 0 = (false, p) ∧ p < N ∧ ¬ mh p = -1 ∧ lF fi la rh (nI a) N 0 = -1 ∧ rhl la rh N 0 (-1) (-2) = nI p) := by
  obtain ⟨N', rfl⟩ : ∃ z, N = z + 1 := ⟨N - 1, by omega⟩
  have fr := free_iff ha he (hh 0 (by omega)) (e 0 (by omega))
  by_cases f : fO fi (nI a) ≤ fO la (rh 0)
  · obtain ⟨m1, m2⟩ := fr.mp f
    rw [mgL, if_neg m1, nI_clamp (by omega), if_pos m2, if_neg (show ¬ ml (mh 0).toNatClampNeg < ml (mh 0).toNatClampNeg by rw [Int32.lt_iff_toInt_lt]; omega), lF, if_pos f, rhl, if_neg (fO_ge (hh 0 (by omega)) (e 0 (by omega)) hla)]
    exact mgL_eq ha he hh e N' (0 + 1) 0 (by omega) (by omega) (by omega) m1
  · refine Or.inl ⟨0, ?_, by omega, by rw [lF, if_neg f]⟩
    by_cases m1 : mh 0 = -1
    · rw [mgL, if_pos m1]
    · rw [mgL, if_neg m1, nI_clamp (by omega), if_neg (fun z => f (fr.mpr ⟨m1, z⟩))]
end GIV
