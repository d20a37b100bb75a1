/-! The passes over the values: the class's row and the model's choice go together. -/
theorem pick {fi la mf od mg0 : Nat → Int32} {wo i : Nat} {may : Nat → Bool} {cd : Nat → Prop} (hord : ordd fi la 24 wo od) (hcd : ∀ a, a < 24 → cd a → arB la (nI a) = true ∧ mf a = fi a) (hmay : ∀ a, a < 24 → (may a = true ↔ cd a ∧ mg0 a = 0)) (hg : ∀ a, a < 24 → cd a → (mg0 a = 0 ↔ ∃ j, i ≤ j ∧ j < wo ∧ od j = nI a)) :
    (nO may mf 24 0 (-1) = -1 ∧ ∀ j, i ≤ j → j < wo → ∀ b, b < 24 → od j = nI b → ¬ cd b) ∨
    (∃ a j0, a < 24 ∧ nO may mf 24 0 (-1) = nI a ∧ cd a ∧ mg0 a = 0 ∧ i ≤ j0 ∧ j0 < wo ∧ od j0 = nI a ∧ (∀ j, i ≤ j → j < j0 → ∀ b, b < 24 → od j = nI b → ¬ cd b) ∧ ∀ a', a' < 24 → cd a' → (upd mg0 a 1 a' = 0 ↔ ∃ j, j0 + 1 ≤ j ∧ j < wo ∧ od j = nI a')) := by
  rcases nO_all may mf with ⟨e, h0⟩ | ⟨a, ha, e, ma, hmin⟩
  · refine Or.inl ⟨e, fun j hj hjw b hb eb hc => ?_⟩
    have := (hmay b hb).mpr ⟨hc, (hg b hb hc).mpr ⟨j, hj, hjw, eb⟩⟩
    rw [h0 b hb] at this
    exact absurd this (by decide)
  · obtain ⟨ca, ga⟩ := (hmay a ha).mp ma
    obtain ⟨j0, hi, hw, ej⟩ := (hg a ha ca).mp ga
    have skip : ∀ j, i ≤ j → j < j0 → ∀ b, b < 24 → od j = nI b → ¬ cd b := by
      intro j hj hjl b hb eb hc
      have b1 : bef fi b a := hord.2.2.1 j j0 b a hjl hw eb ej hb ha
      have mb := (hmay b hb).mpr ⟨hc, (hg b hb hc).mpr ⟨j, hj, by omega, eb⟩⟩
      have b2 := hmin b hb mb (fun z => by subst z; exact bef_irr b1)
      have b3 : bef fi a b := by
        have e1 := (hcd a ha ca).2
        have e2 := (hcd b hb hc).2
        unfold bef at *
        rw [e1, e2] at b2
        exact b2
      exact bef_irr (bef_tr b1 b3)
    refine Or.inr ⟨a, j0, ha, e, ca, ga, hi, hw, ej, skip, fun a' ha' hc' => ?_⟩
    by_cases q : a' = a
    · subst q
      rw [pk_us]
      constructor
      · intro z; exact absurd z (by decide)
      · rintro ⟨j, h1, h2, h3⟩
        exact absurd (hord.2.2.1 j0 j a' a' (by omega) h2 ej h3 ha ha) bef_irr
    · rw [pk_un q, hg a' ha' hc']
      constructor
      · rintro ⟨j, h1, h2, h3⟩
        refine ⟨j, ?_, h2, h3⟩
        rcases Nat.lt_trichotomy j j0 with z | z | z
        · exact absurd hc' (skip j h1 z a' ha' h3)
        · subst z
          exact absurd (nI_inj (by omega) (by omega) (h3.symm.trans ej)) q
        · omega
      · rintro ⟨j, h1, h2, h3⟩
        exact ⟨j, by omega, h2, h3⟩
theorem gRs_skip {fi la ov od : Nat → Int32} {w : Nat} : ∀ (d q i : Nat) (rg rh : Nat → Int32), (∀ j, i ≤ j → j < i + d → ovB ov (od j) = true) → gRs fi la ov od w (d + q) i rg rh = gRs fi la ov od w q (i + d) rg rh := by
  intro d
  induction d with
  | zero => intro q i rg rh _; rw [Nat.zero_add]; rfl
  | succ d ih =>
    intro q i rg rh h
    rw [show d + 1 + q = (d + q) + 1 by omega, gRs, if_pos (h i (Nat.le_refl _) (by omega)), ih q (i + 1) rg rh (fun j h1 h2 => h j (by omega) (by omega)), show i + 1 + d = i + (d + 1) by omega]
theorem gSs_skip {fi la rg od : Nat → Int32} : ∀ (d q i : Nat) (sl sh : Nat → Int32) (c : Int32), (∀ j, i ≤ j → j < i + d → ¬ rg (od j).toNatClampNeg = -1) → gSs fi la rg od (d + q) i sl sh c = gSs fi la rg od q (i + d) sl sh c := by
  intro d
  induction d with
  | zero => intro q i sl sh c _; rw [Nat.zero_add]; rfl
  | succ d ih =>
    intro q i sl sh c h
    rw [show d + 1 + q = (d + q) + 1 by omega, gSs, if_neg (h i (Nat.le_refl _) (by omega)), ih q (i + 1) sl sh c (fun j h1 h2 => h j (by omega) (by omega)), show i + 1 + d = i + (d + 1) by omega]
section PSR
variable {fi la mf ml mi mo ov od : Nat → Int32} {wo w : Nat}
/-- what class and model have in common ahead of the passes -/
def baseR (fi la mf ml mi mo ov od : Nat → Int32) (wo : Nat) : Prop :=
  ordd fi la 24 wo od ∧ (∀ a, a < 24 → (mi a = 0 ∧ la a = -2) ∨ (¬ mi a = 0 ∧ eqv fi la mf ml a ∧ (-2 : Int) ≤ (la a).toInt)) ∧ ∀ a, a < 24 → mo a = ov a
theorem baseR_la (h : baseR fi la mf ml mi mo ov od wo) : ∀ b, b < 24 → eqv fi la mf ml b → (-2 : Int) ≤ (la b).toInt := by
  intro b hb he
  rcases h.2.1 b hb with ⟨-, z⟩ | ⟨-, -, z⟩
  · exact absurd z he.2.2.2
  · exact z
theorem baseR_ar (h : baseR fi la mf ml mi mo ov od wo) {a : Nat} (ha : a < 24) : arB la (nI a) = true ↔ ¬ mi a = 0 := by
  rw [arB_nI ha, decide_eq_true_eq]
  rcases h.2.1 a ha with ⟨z1, z2⟩ | ⟨z1, z2, -⟩
  · exact ⟨fun q => absurd z2 q, fun q => absurd z1 q⟩
  · exact ⟨fun _ => z1, fun _ => z2.2.2.2⟩
theorem baseR_eqv (h : baseR fi la mf ml mi mo ov od wo) {a : Nat} (ha : a < 24) (hm : ¬ mi a = 0) : eqv fi la mf ml a := by
  rcases h.2.1 a ha with ⟨z1, -⟩ | ⟨-, z2, -⟩
  · exact absurd z1 hm
  · exact z2
def invR (fi la mf ml mi ov od : Nat → Int32) (wo w : Nat) (RES : (Nat → Int32) × (Nat → Int32)) (mg0 mr mh : Nat → Int32) : Prop :=
  ∃ (i : Nat) (rg rh : Nat → Int32), i ≤ wo ∧ gRs fi la ov od w (wo - i) i rg rh = RES ∧ (∀ a, a < 24 → rg a = mr a) ∧ (∀ r, r < w → rh r = mh r) ∧ (∀ r, r < w → hOk fi la mf ml mh r) ∧ (∀ a, a < 24 → mr a = -1 ∨ inB (mr a) 8 = true) ∧
    ∀ a, a < 24 → (¬ mi a = 0 ∧ ¬ ovB ov (nI a) = true) → (mg0 a = 0 ↔ ∃ j, i ≤ j ∧ j < wo ∧ od j = nI a)
theorem invR_step (hw1 : 1 ≤ w) (hw8 : w ≤ 8) (hb : baseR fi la mf ml mi mo ov od wo) {RES : (Nat → Int32) × (Nat → Int32)} {mg0 mr mh : Nat → Int32} (h : invR fi la mf ml mi ov od wo w RES mg0 mr mh) :
    (nO (mayR mi mg0 mo) mf 24 0 (-1) = -1 ∧ (∀ a, a < 24 → RES.1 a = mr a) ∧ (∀ a, a < 24 → mr a = -1 ∨ inB (mr a) 8 = true)) ∨
    (∃ a, a < 24 ∧ nO (mayR mi mg0 mo) mf 24 0 (-1) = nI a ∧ mg0 a = 0 ∧ (∀ r, r < w → mh r = -1 ∨ inB (mh r) 24 = true) ∧ invR fi la mf ml mi ov od wo w RES (upd mg0 a 1) (gmR mf ml mr mh w (nI a)).1 (gmR mf ml mr mh w (nI a)).2) := by
  obtain ⟨i, rg, rh, hi, hR, e1, e2, hh, h8, hg⟩ := h
  have hmay : ∀ a, a < 24 → (mayR mi mg0 mo a = true ↔ (¬ mi a = 0 ∧ ¬ ovB ov (nI a) = true) ∧ mg0 a = 0) := by
    intro a ha
    unfold mayR
    rw [ovB_nI ha, ← hb.2.2 a ha]
    simp only [Bool.and_eq_true, decide_eq_true_eq, Decidable.not_not]
    exact ⟨fun z => ⟨⟨z.1, z.2.2⟩, z.2.1⟩, fun z => ⟨z.1.1, z.2, z.1.2⟩⟩
  have hin : ∀ r, r < w → mh r = -1 ∨ inB (mh r) 24 = true := by
    intro r hr
    rcases hh r hr with z | ⟨b, hb9, z, -⟩
    · exact Or.inl z
    · exact Or.inr (by rw [z, inB_nI (by omega)]; exact decide_eq_true hb9)
  rcases pick (cd := fun a => ¬ mi a = 0 ∧ ¬ ovB ov (nI a) = true) hb.1 (fun a ha hc => ⟨(baseR_ar hb ha).mpr hc.1, (baseR_eqv hb ha hc.1).1⟩) hmay hg with ⟨e, hs⟩ | ⟨a, j0, ha, e, hc, ga, hij, hjw, ej, hs, hg'⟩
  · refine Or.inl ⟨e, ?_, h8⟩
    have sk := gRs_skip (fi := fi) (la := la) (ov := ov) (od := od) (w := w) (wo - i) 0 i rg rh (fun j h1 h2 => ?_)
    · rw [Nat.add_zero, hR] at sk
      intro a ha
      rw [sk]
      exact e1 a ha
    · obtain ⟨b, hb9, eb, hab⟩ := hb.1.2.1 j (by omega)
      have := hs j h1 (by omega) b hb9 eb
      rw [eb]
      exact Classical.byContradiction fun z => this ⟨(baseR_ar hb hb9).mp hab, z⟩
  · refine Or.inr ⟨a, ha, e, ga, hin, ?_⟩
    have he := baseR_eqv hb ha hc.1
    have hla := baseR_la hb
    have sk := gRs_skip (fi := fi) (la := la) (ov := ov) (od := od) (w := w) (j0 - i) (wo - j0) i rg rh (fun j h1 h2 => by
      obtain ⟨b, hb9, eb, hab⟩ := hb.1.2.1 j (by omega)
      have := hs j h1 (by omega) b hb9 eb
      rw [eb]
      exact Classical.byContradiction fun z => this ⟨(baseR_ar hb hb9).mp hab, z⟩)
    rw [show j0 - i + (wo - j0) = wo - i by omega, hR, show i + (j0 - i) = j0 by omega, show wo - j0 = (wo - (j0 + 1)) + 1 by omega, gRs, ej, if_neg hc.2] at sk
    have hcl : (nI a).toNatClampNeg = a := nI_clamp (by omega)
    have v : (∃ p, p < w ∧ gvR fi la rg rh w (nI a) = (upd rg a (nI p), upd rh p (nI a)) ∧ gmR mf ml mr mh w (nI a) = (upd mr a (nI p), upd mh p (nI a))) ∨ (gvR fi la rg rh w (nI a) = (rg, rh) ∧ gmR mf ml mr mh w (nI a) = (mr, mh)) ∨
        (∃ p b1, p < w ∧ b1 < 24 ∧ gvR fi la rg rh w (nI a) = (upd (upd rg b1 (-1)) a (nI p), upd rh p (nI a)) ∧ gmR mf ml mr mh w (nI a) = (upd (upd mr b1 (-1)) a (nI p), upd mh p (nI a))) := by
      rcases mgL_0 (rh := rh) ha he hw1 (by omega) hh e2 hla with ⟨p, m1, hp, l1⟩ | ⟨p, m1, hp, hm, l1, l2⟩
      · refine Or.inl ⟨p, hp, ?_, ?_⟩
        · rw [gvR, l1, if_neg (nI_ne_m1 (by omega)), hcl, nI_clamp (by omega)]
        · rw [gmR, m1, if_pos rfl, hcl]
      · obtain ⟨b1, hb1, eb1, heb⟩ := (hh p hp).resolve_left hm
        have v0 : rh p = nI b1 := (e2 p hp).trans eb1
        have c0 : (nI b1).toNatClampNeg = b1 := nI_clamp (by omega)
        have ib : inB (nI b1) 24 = true := by rw [inB_nI (by omega)]; exact decide_eq_true hb1
        have nf : ¬ ((false, p) : Bool × Nat).1 = true := Bool.false_ne_true
        by_cases q : la b1 ≤ la a
        · refine Or.inr (Or.inl ⟨?_, ?_⟩)
          · rw [gvR, if_pos l1, l2, if_neg (nI_ne_m1 (by omega)), nI_clamp (by omega), v0, c0, ib, if_neg (fun z : true = false => Bool.noConfusion z), fO_nI ha, if_pos q]
          · rw [gmR, m1, if_neg nf, hcl, eb1, c0, he.2.1, heb.2.1, if_neg (sm_nlt q)]
        · refine Or.inr (Or.inr ⟨p, b1, hp, hb1, ?_, ?_⟩)
          · rw [gvR, if_pos l1, l2, if_neg (nI_ne_m1 (by omega)), nI_clamp (by omega), v0, c0, ib, if_neg (fun z : true = false => Bool.noConfusion z), fO_nI ha, if_neg q, hcl]
          · rw [gmR, m1, if_neg nf, hcl, eb1, c0, he.2.1, heb.2.1, if_pos (sm_lt q)]
    have h8' : ∀ p, p < w → inB (nI p) 8 = true := fun p hp => by rw [inB_nI (by omega)]; exact decide_eq_true (by omega)
    have eU : ∀ (f g : Nat → Int32) (N x : Nat) (y : Int32), (∀ b, b < N → f b = g b) → ∀ b, b < N → upd f x y b = upd g x y b := by
      intro f g N x y hfg b hb9
      by_cases q : b = x
      · subst q; rw [pk_us, pk_us]
      · rw [pk_un q, pk_un q]; exact hfg b hb9
    have hU : ∀ p, ∀ r, r < w → hOk fi la mf ml (upd mh p (nI a)) r := by
      intro p r hr
      unfold hOk
      by_cases q : r = p
      · subst q; rw [pk_us]; exact Or.inr ⟨a, ha, rfl, he⟩
      · rw [pk_un q]; exact hh r hr
    have pU : ∀ (f : Nat → Int32) (x : Nat) (y : Int32), (y = -1 ∨ inB y 8 = true) → (∀ b, b < 24 → f b = -1 ∨ inB (f b) 8 = true) → ∀ b, b < 24 → upd f x y b = -1 ∨ inB (upd f x y b) 8 = true := by
      intro f x y hy hf b hb9
      by_cases q : b = x
      · subst q; rw [pk_us]; exact hy
      · rw [pk_un q]; exact hf b hb9
    rcases v with ⟨p, hp, v1, v2⟩ | ⟨v1, v2⟩ | ⟨p, b1, hp, hb1, v1, v2⟩
    · rw [v1] at sk
      rw [v2]
      exact ⟨j0 + 1, _, _, by omega, sk.symm, eU _ _ 24 _ _ e1, eU _ _ w _ _ e2, hU p, pU _ _ _ (Or.inr (h8' p hp)) h8, hg'⟩
    · rw [v1] at sk
      rw [v2]
      exact ⟨j0 + 1, _, _, by omega, sk.symm, e1, e2, hh, h8, hg'⟩
    · rw [v1] at sk
      rw [v2]
      exact ⟨j0 + 1, _, _, by omega, sk.symm, eU _ _ 24 _ _ (eU _ _ 24 _ _ e1), eU _ _ w _ _ e2, hU p, pU _ _ _ (Or.inr (h8' p hp)) (pU _ _ _ (Or.inl rfl) h8), hg'⟩
theorem invR_0 (hb : baseR fi la mf ml mi mo ov od wo) {mg mr mh : Nat → Int32} (hg : ∀ a, a < 24 → mg a = 0) (hr : ∀ a, a < 24 → mr a = -1) (hh : ∀ r, r < w → mh r = -1) : invR fi la mf ml mi ov od wo w (gRs fi la ov od w wo 0 (fun _ => -1) (fun _ => -1)) mg mr mh := by
  refine ⟨0, fun _ => -1, fun _ => -1, Nat.zero_le _, rfl, fun a ha => (hr a ha).symm, fun r h => (hh r h).symm, fun r h => Or.inl (hh r h), fun a ha => Or.inl (hr a ha), fun a ha hc => ⟨fun _ => ?_, fun _ => hg a ha⟩⟩
  obtain ⟨j, hj, ej⟩ := hb.1.2.2.2 a ha ((baseR_ar hb ha).mpr hc.1)
  exact ⟨j, Nat.zero_le _, hj, ej⟩
def invS (fi la mf ml mi od : Nat → Int32) (wo : Nat) (rg mr : Nat → Int32) (RES : (Nat → Int32) × (Nat → Int32) × Int32) (mg0 ms mh : Nat → Int32) (ns : Nat) : Prop :=
  ∃ (i : Nat) (sl sh : Nat → Int32), i ≤ wo ∧ gSs fi la rg od (wo - i) i sl sh (nI ns) = RES ∧ ns ≤ i ∧ (∀ a, a < 24 → sl a = ms a) ∧ (∀ r, r < ns → sh r = mh r ∧ ∃ b, b < 24 ∧ mh r = nI b ∧ eqv fi la mf ml b) ∧ (∀ r, ns ≤ r → r < 24 → sh r = -1) ∧
    (∀ j, j < i → ∀ a, a < 24 → od j = nI a → mr a = -1 → inB (ms a) 24 = true) ∧ (∀ a, a < 24 → ms a = -1 ∨ inB (ms a) 24 = true) ∧
    ∀ a, a < 24 → (¬ mi a = 0 ∧ mr a = -1) → (mg0 a = 0 ↔ ∃ j, i ≤ j ∧ j < wo ∧ od j = nI a)
/-- the least slot: class and model -/
theorem lF_ms {sh mh : Nat → Int32} {a ns : Nat} (ha : a < 24) (he : eqv fi la mf ml a) (hns : ns < 24) (h1 : ∀ r, r < ns → sh r = mh r ∧ ∃ b, b < 24 ∧ mh r = nI b ∧ eqv fi la mf ml b) (h2 : ∀ r, ns ≤ r → r < 24 → sh r = -1) :
    ∀ (q s : Nat), q + s = ns → lF fi la sh (nI a) (24 - s) s = nI (msL mf ml mh (nI a) q s) := by
  have hcl : (nI a).toNatClampNeg = a := nI_clamp (by omega)
  intro q
  induction q with
  | zero =>
    intro s hq
    rw [show 24 - s = (23 - s) + 1 by omega, lF, h2 s (by omega) (by omega), fO_m1, fO_nI ha, if_neg]
    · rfl
    · intro z
      rw [Int32.le_iff_toInt_le, show ((-2 : Int32)).toInt = -2 from by decide] at z
      have := he.2.2.1; omega
  | succ q ih =>
    intro s hq
    obtain ⟨e, b, hb9, eb, heb⟩ := h1 s (by omega)
    rw [show 24 - s = (24 - (s + 1)) + 1 by omega, lF, msL, e, eb, fO_nI ha, fO_nI hb9, nI_clamp (show b < 2 ^ 31 by omega), hcl, heb.2.1, he.1]
    by_cases c : fi a ≤ la b
    · rw [if_pos c, if_neg (sm_nlt c)]; exact ih (s + 1) (by omega)
    · rw [if_neg c, if_pos (sm_lt c)]
end PSR
