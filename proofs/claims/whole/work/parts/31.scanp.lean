/-! One value's turn in the model's scan, against the class's whole scan. -/
section SCP
variable {n : Nat} {fk fa fb fc : Nat → Int32} {v : Nat}
abbrev ffL (n : Nat) (fk fa fb fc : Nat → Int32) : Nat → Int32 := flw n fk fa fb fc 61 (fun _ => 0) 1
def relA (n : Nat) (fk fa fb fc ov : Nat → Int32) (mf ml mi mo mr ms : Nat → Int32) (a : Nat) : Prop :=
  ((mi a = 0 ∧ scLa n fk fa (ffL n fk fa fb fc) a = -2) ∨ (¬ mi a = 0 ∧ eqv (scFi n fk fa (ffL n fk fa fb fc)) (scLa n fk fa (ffL n fk fa fb fc)) mf ml a ∧ (-2 : Int) ≤ (scLa n fk fa (ffL n fk fa fb fc) a).toInt)) ∧ mo a = scOv n fk fa (ffL n fk fa fb fc) ov a ∧ mr a = -1 ∧ ms a = -1
theorem rd_has (hn : n ≤ 60) (hok : okRow n fk fa fb fc) (hv : v < 24) : ∀ k, k < n → mrd fk fa fb fc k (nI v) = true → hasB (ffL n fk fa fb fc) (nI k) (nI v) = true := by
  intro k hk h
  refine lv_t hn hok hv hk ⟨1, li_stp_iff.mpr ⟨hk, Or.inl ?_⟩⟩
  rw [← mrd_rd hn hk hv]; exact h
theorem st_iff (hn : n ≤ 60) (hok : okRow n fk fa fb fc) (hv : v < 24) : ∀ k, k < n → (mst fk fa k (nI v) = true ↔ sA n fk fa (nI k) = nI v) := by
  intro k hk
  rw [mst_st hn hok hk hv, stB, decide_eq_true_eq]
theorem has_0 (hn : n ≤ 60) (hok : okRow n fk fa fb fc) (h : n = 0) : ¬ hasB (ffL n fk fa fb fc) 0 (nI v) = true := by
  intro z
  have := (hasB_in (k := 0) hn hok (by decide) z).2
  omega
theorem rel_new (hn : n ≤ 60) (hok : okRow n fk fa fb fc) (hv : v < 24) (ov mf ml mi mo mr ms : Nat → Int32) (hr : mr v = -1) (hs : ms v = -1) :
    relA n fk fa fb fc ov (mtK (fun k => hasB (ffL n fk fa fb fc) (nI k) (nI v)) (fun k => mrd fk fa fb fc k (nI v)) (fun k => mst fk fa k (nI v)) v n 0 (mf, ml, upd mi v 0)).1 (mtK (fun k => hasB (ffL n fk fa fb fc) (nI k) (nI v)) (fun k => mrd fk fa fb fc k (nI v)) (fun k => mst fk fa k (nI v)) v n 0 (mf, ml, upd mi v 0)).2.1 (mtK (fun k => hasB (ffL n fk fa fb fc) (nI k) (nI v)) (fun k => mrd fk fa fb fc k (nI v)) (fun k => mst fk fa k (nI v)) v n 0 (mf, ml, upd mi v 0)).2.2
      (moK fk (mtK (fun k => hasB (ffL n fk fa fb fc) (nI k) (nI v)) (fun k => mrd fk fa fb fc k (nI v)) (fun k => mst fk fa k (nI v)) v n 0 (mf, ml, upd mi v 0)).1 (mtK (fun k => hasB (ffL n fk fa fb fc) (nI k) (nI v)) (fun k => mrd fk fa fb fc k (nI v)) (fun k => mst fk fa k (nI v)) v n 0 (mf, ml, upd mi v 0)).2.1 (mtK (fun k => hasB (ffL n fk fa fb fc) (nI k) (nI v)) (fun k => mrd fk fa fb fc k (nI v)) (fun k => mst fk fa k (nI v)) v n 0 (mf, ml, upd mi v 0)).2.2 v n 0 (upd mo v 0)) mr ms v := by
  obtain ⟨hi, hl, hl2, e1, e2⟩ := (ftO_at (n := n) (fk := fk) (fa := fa) (ff := ffL n fk fa fb fc) 24 0 (fun _ => -2) (fun _ => -2) rfl (fun _ _ _ => rfl) v hv).2 (Nat.zero_le _)
  have t := tR_all (v := v) (ff := ffL n fk fa fb fc) (rd := fun k => mrd fk fa fb fc k (nI v)) hn (fun k => mst fk fa k (nI v)) (st_iff hn hok hv) (rd_has hn hok hv) (has_0 hn hok) hi hl (mf, ml, upd mi v 0) hl2 (by show upd mi v 0 v = 0; exact pk_us)
  generalize mtK (fun k => hasB (ffL n fk fa fb fc) (nI k) (nI v)) (fun k => mrd fk fa fb fc k (nI v)) (fun k => mst fk fa k (nI v)) v n 0 (mf, ml, upd mi v 0) = s at t ⊢
  have f1 : scFi n fk fa (ffL n fk fa fb fc) v = _ := e1
  have f2 : scLa n fk fa (ffL n fk fa fb fc) v = _ := e2
  have key : (s.2.2 v = 0 ∧ scLa n fk fa (ffL n fk fa fb fc) v = -2) ∨ (¬ s.2.2 v = 0 ∧ eqv (scFi n fk fa (ffL n fk fa fb fc)) (scLa n fk fa (ffL n fk fa fb fc)) s.1 s.2.1 v ∧ (-2 : Int) ≤ (scLa n fk fa (ffL n fk fa fb fc) v).toInt) := by
    rcases t with ⟨a, b⟩ | ⟨a, b, c, d, e, f⟩
    · exact Or.inl ⟨a, f2.trans b⟩
    · refine Or.inr ⟨by rw [a]; decide, ⟨b.trans f1.symm, c.trans f2.symm, by rw [f1]; exact d, ?_⟩, by rw [f2]; omega⟩
      rw [f2]; exact m2_lt (by omega)
  refine ⟨key, ?_, hr, hs⟩
  obtain ⟨h, e3⟩ := (ocO_at (n := n) (fk := fk) (fi := scFi n fk fa (ffL n fk fa fb fc)) (la := scLa n fk fa (ffL n fk fa fb fc)) 24 0 ov rfl v hv).2 (Nat.zero_le _)
  have e4 : scOv n fk fa (ffL n fk fa fb fc) ov v = _ := e3
  rw [e4]
  exact (ov_eq hn hv (key.imp id (fun z => ⟨z.1, z.2.1⟩)) n 0 (upd h v 0) (upd mo v 0) (by omega) (by rw [pk_us, pk_us]) (by rw [pk_us]; exact Or.inl rfl)).symm
theorem relA_ne {ov mf ml mi mo mr ms mf' ml' mi' mo' mr' ms' : Nat → Int32} {a : Nat} (h : relA n fk fa fb fc ov mf ml mi mo mr ms a) (e1 : mf' a = mf a) (e2 : ml' a = ml a) (e3 : mi' a = mi a) (e4 : mo' a = mo a) (e5 : mr' a = mr a) (e6 : ms' a = ms a) : relA n fk fa fb fc ov mf' ml' mi' mo' mr' ms' a := by
  unfold relA eqv at *
  rw [e1, e2, e3, e4, e5, e6]; exact h
theorem relA_base {ov od mf ml mi mo mr ms : Nat → Int32} (h : ∀ a, a < 24 → relA n fk fa fb fc ov mf ml mi mo mr ms a) : baseR (scFi n fk fa (ffL n fk fa fb fc)) (scLa n fk fa (ffL n fk fa fb fc)) mf ml mi mo (scOv n fk fa (ffL n fk fa fb fc) ov) (scOd n fk fa (ffL n fk fa fb fc) od) (scWo n fk fa (ffL n fk fa fb fc) od) :=
  ⟨odO_all _ _ _, fun a ha => (h a ha).1, fun a ha => (h a ha).2.1⟩
theorem relA_cnt {ov mf ml mi mo mr ms : Nat → Int32} (hv : v < 24) (h : relA n fk fa fb fc ov mf ml mi mo mr ms v) : arB (scLa n fk fa (ffL n fk fa fb fc)) (nI v) = true ↔ ¬ mi v = 0 := by
  rw [arB_nI hv, decide_eq_true_eq]
  rcases h.1 with ⟨z1, z2⟩ | ⟨z1, z2, -⟩
  · exact ⟨fun q => absurd z2 q, fun q => absurd z1 q⟩
  · exact ⟨fun _ => z1, fun _ => z2.2.2.2⟩
theorem scWo_cnt {od : Nat → Int32} : scWo n fk fa (ffL n fk fa fb fc) od = cnB (fun a => arB (scLa n fk fa (ffL n fk fa fb fc)) (nI a)) 24 := odO_cnt 24 0 0 od rfl rfl
end SCP
