/-! The slots' pass. -/
section PSS
variable {fi la mf ml mi mo ov od rg mr : Nat → Int32} {wo : Nat}
theorem invS_step (hb : baseR fi la mf ml mi mo ov od wo) (hrg : ∀ a, a < 24 → rg a = mr a) {RES : (Nat → Int32) × (Nat → Int32) × Int32} {mg0 ms mh : Nat → Int32} {ns : Nat} (h : invS fi la mf ml mi od wo rg mr RES mg0 ms mh ns) :
    (nO (mayS mi mg0 mr) mf 24 0 (-1) = -1 ∧ (∀ a, a < 24 → RES.1 a = ms a) ∧ RES.2.2 = nI ns ∧ ns ≤ 24 ∧ (∀ a, a < 24 → ¬ mi a = 0 → mr a = -1 → inB (ms a) 24 = true) ∧ (∀ a, a < 24 → ms a = -1 ∨ inB (ms a) 24 = true)) ∨
    (∃ a, a < 24 ∧ nO (mayS mi mg0 mr) mf 24 0 (-1) = nI a ∧ mg0 a = 0 ∧ ns < 24 ∧ (∀ r, r < ns → inB (mh r) 24 = true) ∧ invS fi la mf ml mi od wo rg mr RES (upd mg0 a 1) (upd ms a (nI (msL mf ml mh (nI a) ns 0))) (upd mh (msL mf ml mh (nI a) ns 0) (nI a)) (if msL mf ml mh (nI a) ns 0 = ns then ns + 1 else ns)) := by
  obtain ⟨i, sl, sh, hi, hR, hni, e1, e2, e3, hd, h24, hg⟩ := h
  have hwo : wo ≤ 24 := hb.1.1
  have hmay : ∀ a, a < 24 → (mayS mi mg0 mr a = true ↔ (¬ mi a = 0 ∧ mr a = -1) ∧ mg0 a = 0) := by
    intro a ha
    unfold mayS
    simp only [Bool.and_eq_true, decide_eq_true_eq]
    exact ⟨fun z => ⟨⟨z.1, z.2.2⟩, z.2.1⟩, fun z => ⟨z.1.1, z.2, z.1.2⟩⟩
  have hin : ∀ r, r < ns → inB (mh r) 24 = true := by
    intro r hr
    obtain ⟨-, b, hb9, z, -⟩ := e2 r hr
    rw [z, inB_nI (by omega)]; exact decide_eq_true hb9
  have noskip : ∀ j, j < wo → (∀ b, b < 24 → od j = nI b → ¬ (¬ mi b = 0 ∧ mr b = -1)) → ¬ rg (od j).toNatClampNeg = -1 := by
    intro j hj hs
    obtain ⟨b, hb9, eb, hab⟩ := hb.1.2.1 j hj
    rw [eb, nI_clamp (by omega), hrg b hb9]
    exact fun z => hs b hb9 eb ⟨(baseR_ar hb hb9).mp hab, z⟩
  rcases pick (cd := fun a => ¬ mi a = 0 ∧ mr a = -1) hb.1 (fun a ha hc => ⟨(baseR_ar hb ha).mpr hc.1, (baseR_eqv hb ha hc.1).1⟩) hmay hg with ⟨e, hs⟩ | ⟨a, j0, ha, e, hc, ga, hij, hjw, ej, hs, hg'⟩
  · have sk := gSs_skip (fi := fi) (la := la) (rg := rg) (od := od) (wo - i) 0 i sl sh (nI ns) (fun j h1 h2 => noskip j (by omega) (hs j h1 (by omega)))
    rw [Nat.add_zero, hR] at sk
    refine Or.inl ⟨e, fun a ha => by rw [sk]; exact e1 a ha, by rw [sk]; rfl, by omega, fun a ha hm hr => ?_, h24⟩
    obtain ⟨j, hj, ej⟩ := hb.1.2.2.2 a ha ((baseR_ar hb ha).mpr hm)
    by_cases q : j < i
    · exact hd j q a ha ej hr
    · exact absurd ⟨hm, hr⟩ (hs j (by omega) hj a ha ej)
  · have he := baseR_eqv hb ha hc.1
    have hns : ns < 24 := by omega
    have hcl : (nI a).toNatClampNeg = a := nI_clamp (by omega)
    have sk := gSs_skip (fi := fi) (la := la) (rg := rg) (od := od) (j0 - i) (wo - j0) i sl sh (nI ns) (fun j h1 h2 => noskip j (by omega) (hs j h1 (by omega)))
    have hra : rg (nI a).toNatClampNeg = -1 := by rw [hcl, hrg a ha]; exact hc.2
    rw [show j0 - i + (wo - j0) = wo - i by omega, hR, show i + (j0 - i) = j0 by omega, show wo - j0 = (wo - (j0 + 1)) + 1 by omega, gSs, ej, if_pos hra] at sk
    have hl := lF_ms ha he hns e2 e3 ns 0 (by omega)
    rw [Nat.sub_zero] at hl
    have hsl := (msL_le (mf := mf) (ml := ml) (mh := mh) (x := nI a) ns 0).2
    refine Or.inr ⟨a, ha, e, ga, hns, hin, ?_⟩
    generalize msL mf ml mh (nI a) ns 0 = s2 at hl hsl ⊢
    have v1 : gvS fi la sl sh (nI ns) (nI a) = (upd sl a (nI s2), upd sh s2 (nI a), nI (if s2 = ns then ns + 1 else ns)) := by
      rw [gvS, hl, if_neg (nI_ne_m1 (by omega)), hcl, nI_clamp (by omega), nI_1]
      by_cases q : s2 = ns
      · subst q
        rw [if_pos rfl, if_pos (nI_lt (by omega) (by omega))]
      · rw [if_neg q, if_neg (nI_nlt (by omega) (by omega))]
    rw [v1] at sk
    refine ⟨j0 + 1, upd sl a (nI s2), upd sh s2 (nI a), by omega, sk.symm, ?_, fun b hb9 => ?_, fun r hr => ?_, fun r h1 h2 => ?_, fun j hj a' ha' ea' hr' => ?_, fun b hb9 => ?_, hg'⟩
    · by_cases q : s2 = ns
      · rw [if_pos q]; omega
      · rw [if_neg q]; omega
    · by_cases q : b = a
      · subst q; rw [pk_us, pk_us]
      · rw [pk_un q, pk_un q]; exact e1 b hb9
    · by_cases q : r = s2
      · subst q; rw [pk_us, pk_us]; exact ⟨rfl, a, ha, rfl, he⟩
      · rw [pk_un q, pk_un q]
        refine e2 r ?_
        by_cases q2 : s2 = ns
        · rw [if_pos q2] at hr; omega
        · rw [if_neg q2] at hr; exact hr
    · have : r ≠ s2 := by
        by_cases q2 : s2 = ns
        · rw [if_pos q2] at h1; omega
        · rw [if_neg q2] at h1; omega
      rw [pk_un this]
      refine e3 r ?_ h2
      by_cases q2 : s2 = ns
      · rw [if_pos q2] at h1; omega
      · rw [if_neg q2] at h1; exact h1
    · by_cases q : a' = a
      · subst q; rw [pk_us, inB_nI (by omega)]; exact decide_eq_true (by omega)
      · rw [pk_un q]
        by_cases q1 : j < i
        · exact hd j q1 a' ha' ea' hr'
        · by_cases q2 : j = j0
          · subst q2; exact absurd (nI_inj (by omega) (by omega) (ea'.symm.trans ej)) q
          · have hj0 : j < j0 := by omega
            obtain ⟨b, hb9, eb, hab⟩ := hb.1.2.1 j (by omega)
            have eb' : a' = b := nI_inj (by omega) (by omega) (ea'.symm.trans eb)
            subst eb'
            exact absurd ⟨(baseR_ar hb ha').mp hab, hr'⟩ (hs j (by omega) hj0 a' ha' ea')
    · by_cases q : b = a
      · subst q; rw [pk_us, inB_nI (by omega)]; exact Or.inr (decide_eq_true (by omega))
      · rw [pk_un q]; exact h24 b hb9
theorem invS_0 (hb : baseR fi la mf ml mi mo ov od wo) {mg ms mh : Nat → Int32} (hg : ∀ a, a < 24 → mg a = 0) (hs : ∀ a, a < 24 → ms a = -1) : invS fi la mf ml mi od wo rg mr (gSs fi la rg od wo 0 (fun _ => -1) (fun _ => -1) 0) mg ms mh 0 := by
  refine ⟨0, fun _ => -1, fun _ => -1, Nat.zero_le _, rfl, Nat.le_refl _, fun a ha => (hs a ha).symm, fun r h => absurd h (Nat.not_lt_zero _), fun r _ _ => rfl, fun j h => absurd h (Nat.not_lt_zero _), fun a ha => Or.inl (hs a ha), fun a ha hc => ⟨fun _ => ?_, fun _ => hg a ha⟩⟩
  obtain ⟨j, hj, ej⟩ := hb.1.2.2.2 a ha ((baseR_ar hb ha).mpr hc.1)
  exact ⟨j, Nat.zero_le _, hj, ej⟩
end PSS
/-- each choice leaves fewer -/
theorem ngo_lt {mg : Nat → Int32} {a : Nat} (ha : a < 24) (h : mg a = 0) : cnB (fun b => decide (upd mg a 1 b = 0)) 24 < cnB (fun b => decide (mg b = 0)) 24 := by
  refine cnB_lt (k := a) (fun b hb => ?_) (decide_eq_true h) (by rw [pk_us]; decide) 24 ha
  by_cases q : b = a
  · subst q; rw [pk_us] at hb; exact absurd hb (by decide)
  · rw [pk_un q] at hb; exact hb
theorem ngo_nI {mg : Nat → Int32} {a : Nat} (ha : a < 24) : ngo mg (nI a) = upd mg a 1 := by
  rw [ngo, if_neg (nI_ne_m1 (by omega)), nI_clamp (by omega)]
