/-! The class and the model side by side: what holds between two calls of a run, and what each call does to it. -/
section LIP
variable {n w wr ns k sp np : Nat} {fk fa fb fc ff fi la ov rg sl mf ml mi mo : Nat → Int32} {sca rn stl sta : Int32}
def LI (n : Nat) (fk fa fb fc : Nat → Int32) (w : Nat) (sca rn stl : Int32) (ff : Nat → Int32) (wr ns : Nat) (fi la ov rg sl : Nat → Int32) (k sp np : Nat) (sta : Int32) (mf ml mi mo : Nat → Int32) : Prop :=
  (n ≤ 60 ∧ okRow n fk fa fb fc ∧ 1 ≤ w ∧ w ≤ 8) ∧ ((sca = 0 ∨ sca = 1) ∧ (rn = 0 ∨ rn = 1) ∧ (rn = 1 → sca = 1)) ∧ ((stl = 0 → ff = flw n fk fa fb fc 61 (fun _ => 0) 1) ∧ (sca = 1 → ff = flw n fk fa fb fc 61 (fun _ => 0) 1)) ∧
  (wr ≤ 8 ∧ ns ≤ 24 ∧ k < 61 ∧ sp ≤ 3000 ∧ np ≤ sp) ∧ sta = rst rn n fk (nI k) sp ∧
  (sca = 1 → ∀ v what, valC sca fi la ov rg sl v what = valM sca mf ml mi mo rg sl v what) ∧ (sca = 1 → cR rg 24 0 0 = cM sca mi rg 24 0 0) ∧
  (sca = 1 → ∀ j, j < n → opPl n fk fa fb fc rg sl j) ∧ (sca = 1 → ∀ j, j < 61 → ∀ u, u < 24 → hasB (flw n fk fa fb fc 61 (fun _ => 0) 1) (nI j) (nI u) = true → plOk rg sl u)
theorem LI.hn (h : LI n fk fa fb fc w sca rn stl ff wr ns fi la ov rg sl k sp np sta mf ml mi mo) : n ≤ 60 := h.1.1
theorem LI.hok (h : LI n fk fa fb fc w sca rn stl ff wr ns fi la ov rg sl k sp np sta mf ml mi mo) : okRow n fk fa fb fc := h.1.2.1
theorem LI.hw1 (h : LI n fk fa fb fc w sca rn stl ff wr ns fi la ov rg sl k sp np sta mf ml mi mo) : 1 ≤ w := h.1.2.2.1
theorem LI.hw8 (h : LI n fk fa fb fc w sca rn stl ff wr ns fi la ov rg sl k sp np sta mf ml mi mo) : w ≤ 8 := h.1.2.2.2
theorem LI.hsca (h : LI n fk fa fb fc w sca rn stl ff wr ns fi la ov rg sl k sp np sta mf ml mi mo) : sca = 0 ∨ sca = 1 := h.2.1.1
theorem LI.hrn (h : LI n fk fa fb fc w sca rn stl ff wr ns fi la ov rg sl k sp np sta mf ml mi mo) : rn = 0 ∨ rn = 1 := h.2.1.2.1
theorem LI.hrs (h : LI n fk fa fb fc w sca rn stl ff wr ns fi la ov rg sl k sp np sta mf ml mi mo) : rn = 1 → sca = 1 := h.2.1.2.2
theorem LI.hfr (h : LI n fk fa fb fc w sca rn stl ff wr ns fi la ov rg sl k sp np sta mf ml mi mo) : stl = 0 → ff = flw n fk fa fb fc 61 (fun _ => 0) 1 := h.2.2.1.1
theorem LI.hfs (h : LI n fk fa fb fc w sca rn stl ff wr ns fi la ov rg sl k sp np sta mf ml mi mo) : sca = 1 → ff = flw n fk fa fb fc 61 (fun _ => 0) 1 := h.2.2.1.2
theorem LI.hwr (h : LI n fk fa fb fc w sca rn stl ff wr ns fi la ov rg sl k sp np sta mf ml mi mo) : wr ≤ 8 := h.2.2.2.1.1
theorem LI.hns (h : LI n fk fa fb fc w sca rn stl ff wr ns fi la ov rg sl k sp np sta mf ml mi mo) : ns ≤ 24 := h.2.2.2.1.2.1
theorem LI.hk (h : LI n fk fa fb fc w sca rn stl ff wr ns fi la ov rg sl k sp np sta mf ml mi mo) : k < 61 := h.2.2.2.1.2.2.1
theorem LI.hsp (h : LI n fk fa fb fc w sca rn stl ff wr ns fi la ov rg sl k sp np sta mf ml mi mo) : sp ≤ 3000 := h.2.2.2.1.2.2.2.1
theorem LI.hnp (h : LI n fk fa fb fc w sca rn stl ff wr ns fi la ov rg sl k sp np sta mf ml mi mo) : np ≤ sp := h.2.2.2.1.2.2.2.2
theorem LI.hst (h : LI n fk fa fb fc w sca rn stl ff wr ns fi la ov rg sl k sp np sta mf ml mi mo) : sta = rst rn n fk (nI k) sp := h.2.2.2.2.1
theorem LI.hval (h : LI n fk fa fb fc w sca rn stl ff wr ns fi la ov rg sl k sp np sta mf ml mi mo) : sca = 1 → ∀ v what, valC sca fi la ov rg sl v what = valM sca mf ml mi mo rg sl v what := h.2.2.2.2.2.1
theorem LI.hcnt (h : LI n fk fa fb fc w sca rn stl ff wr ns fi la ov rg sl k sp np sta mf ml mi mo) : sca = 1 → cR rg 24 0 0 = cM sca mi rg 24 0 0 := h.2.2.2.2.2.2.1
theorem LI.hop (h : LI n fk fa fb fc w sca rn stl ff wr ns fi la ov rg sl k sp np sta mf ml mi mo) : sca = 1 → ∀ j, j < n → opPl n fk fa fb fc rg sl j := h.2.2.2.2.2.2.2.1
theorem LI.hlv (h : LI n fk fa fb fc w sca rn stl ff wr ns fi la ov rg sl k sp np sta mf ml mi mo) : sca = 1 → ∀ j, j < 61 → ∀ u, u < 24 → hasB (flw n fk fa fb fc 61 (fun _ => 0) 1) (nI j) (nI u) = true → plOk rg sl u := h.2.2.2.2.2.2.2.2
theorem LI.np3 (h : LI n fk fa fb fc w sca rn stl ff wr ns fi la ov rg sl k sp np sta mf ml mi mo) : np ≤ 3000 := Nat.le_trans h.hnp h.hsp
theorem rst_0 {nx : Int32} : rst 0 n fk nx sp = 0 := if_pos rfl
theorem rst_ne {nx : Int32} (h : ¬ rn = 0) : ¬ rst rn n fk nx sp = 0 := by
  unfold rst
  rw [if_neg h]
  by_cases e : kA n fk nx = 11
  · rw [if_pos e]; decide
  · rw [if_neg e]
    by_cases q : nI sp < 3000
    · rw [if_pos q]; decide
    · rw [if_neg q]; decide
theorem LI.st0 (h : LI n fk fa fb fc w sca rn stl ff wr ns fi la ov rg sl k sp np sta mf ml mi mo) : sta = 0 ↔ rn = 0 := by
  rw [h.hst]
  refine ⟨fun z => ?_, fun z => by rw [z]; exact rst_0⟩
  by_cases e : rn = 0
  · exact e
  · exact absurd z (rst_ne e)
theorem LI.nz (h : LI n fk fa fb fc w sca rn stl ff wr ns fi la ov rg sl k sp np sta mf ml mi mo) (z : ¬ rn = 0) : sca = 1 := h.hrs (h.hrn.resolve_left z)
theorem LI.run1 (h : LI n fk fa fb fc w sca rn stl ff wr ns fi la ov rg sl k sp np sta mf ml mi mo) (z : sta = 1) : sca = 1 := h.nz (fun e => absurd ((h.st0.mpr e).symm.trans z) (by decide))
theorem LI.off {n' : Nat} {fk' fa' fb' fc' : Nat → Int32} (h : LI n fk fa fb fc w sca rn stl ff wr ns fi la ov rg sl k sp np sta mf ml mi mo) (hn : n' ≤ 60) (hok : okRow n' fk' fa' fb' fc') : LI n' fk' fa' fb' fc' w 0 0 1 ff wr ns fi la ov rg sl k sp np 0 mf ml mi mo :=
  ⟨⟨hn, hok, h.hw1, h.hw8⟩, ⟨Or.inl rfl, Or.inl rfl, fun z => absurd z (by decide)⟩, ⟨fun z => absurd z (by decide), fun z => absurd z (by decide)⟩, h.2.2.2.1, rfl, fun z => absurd z (by decide), fun z => absurd z (by decide), fun z => absurd z (by decide), fun z => absurd z (by decide)⟩
theorem okRow_0 : okRow 0 fk fa fb fc := fun j h => absurd h (Nat.not_lt_zero _)
theorem okRow_push {a b c d : Int32} (h : okRow n fk fa fb fc) (hk : okOp a b c d = true) : okRow (n + 1) (upd fk n a) (upd fa n b) (upd fb n c) (upd fc n d) := by
  intro j hj
  by_cases e : j = n
  · subst e; rw [pk_us, pk_us, pk_us, pk_us]; exact hk
  · rw [pk_un e, pk_un e, pk_un e, pk_un e]; exact h j (by omega)
theorem LI.op {a b c d : Int32} (h : LI n fk fa fb fc w sca rn stl ff wr ns fi la ov rg sl k sp np sta mf ml mi mo) (h1 : n < 60) (hk : okOp a b c d = true) : LI (n + 1) (upd fk n a) (upd fa n b) (upd fb n c) (upd fc n d) w 0 0 1 ff wr ns fi la ov rg sl k sp np 0 mf ml mi mo := h.off (by omega) (okRow_push h.hok hk)
theorem LI.clear (h : LI n fk fa fb fc w sca rn stl ff wr ns fi la ov rg sl k sp np sta mf ml mi mo) : LI 0 fk fa fb fc w 0 0 1 ff wr ns fi la ov rg sl k sp np 0 mf ml mi mo := h.off (Nat.zero_le _) okRow_0
theorem LI.regs {j : Nat} (h : LI n fk fa fb fc w sca rn stl ff wr ns fi la ov rg sl k sp np sta mf ml mi mo) (h1 : 1 ≤ j) (h8 : j ≤ 8) : LI n fk fa fb fc j sca rn stl ff wr ns fi la ov rg sl k sp np sta mf ml mi mo := ⟨⟨h.hn, h.hok, h1, h8⟩, h.2⟩
theorem LI.live (h : LI n fk fa fb fc w sca rn stl ff wr ns fi la ov rg sl k sp np sta mf ml mi mo) : LI n fk fa fb fc w sca rn 0 (flw n fk fa fb fc 61 (fun _ => 0) 1) wr ns fi la ov rg sl k sp np sta mf ml mi mo := ⟨h.1, h.2.1, ⟨fun _ => rfl, fun _ => rfl⟩, h.2.2.2⟩
theorem LI.start (h : LI n fk fa fb fc w sca rn stl ff wr ns fi la ov rg sl k sp np sta mf ml mi mo) (hs : ¬ sca = 0) : LI n fk fa fb fc w sca 1 stl ff wr ns fi la ov rg sl 0 0 0 (rst 1 n fk 0 0) mf ml mi mo :=
  ⟨h.1, ⟨h.hsca, Or.inr rfl, fun _ => h.hsca.resolve_left hs⟩, h.2.2.1, ⟨h.hwr, h.hns, by decide, by decide, by decide⟩, rfl, h.2.2.2.2.2⟩
theorem LI_init {Z : Nat → Int32} : LI 0 Z Z Z Z 4 0 0 1 Z 0 0 Z Z Z Z Z 0 0 0 0 Z Z Z Z :=
  ⟨⟨by decide, okRow_0, by decide, by decide⟩, ⟨Or.inl rfl, Or.inl rfl, fun z => absurd z (by decide)⟩, ⟨fun z => absurd z (by decide), fun z => absurd z (by decide)⟩, ⟨by decide, by decide, by decide, by decide, by decide⟩, rfl, fun z => absurd z (by decide), fun z => absurd z (by decide), fun z => absurd z (by decide), fun z => absurd z (by decide)⟩
/-! the scan -/
theorem gvR_keep {rh : Nat → Int32} {x : Int32} {a : Nat} (hx : inB x 24 = true) (ha : ¬ x = nI a) (ha9 : a < 24) (h : rg a = -1) : (gvR fi la rg rh w x).1 a = -1 := by
  have hne : a ≠ x.toNatClampNeg := by
    obtain ⟨j, hj, rfl⟩ := inB_j hx (by decide)
    rw [nI_clamp (by omega)]
    exact fun e => ha (by rw [e])
  unfold gvR
  by_cases h1 : lF fi la rh x w 0 = -1
  · rw [if_pos h1]
    by_cases h2 : rhl la rh w 0 (-1) (-2) = -1
    · rw [if_pos h2]; exact h
    · rw [if_neg h2]
      by_cases h3 : inB (rh (rhl la rh w 0 (-1) (-2)).toNatClampNeg) 24 = false
      · rw [if_pos h3]; exact h
      · rw [if_neg h3]
        by_cases h4 : la (rh (rhl la rh w 0 (-1) (-2)).toNatClampNeg).toNatClampNeg ≤ fO la x
        · rw [if_pos h4]; exact h
        · rw [if_neg h4]
          show upd (upd rg _ (-1)) x.toNatClampNeg _ a = -1
          rw [pk_un hne]
          by_cases h5 : a = (rh (rhl la rh w 0 (-1) (-2)).toNatClampNeg).toNatClampNeg
          · rw [← h5, pk_us]
          · rw [pk_un h5]; exact h
  · rw [if_neg h1]
    show upd rg x.toNatClampNeg _ a = -1
    rw [pk_un hne]; exact h
theorem gRs_keep {od : Nat → Int32} {a : Nat} (ha : a < 24) : ∀ (q i : Nat) (rg rh : Nat → Int32), (∀ j, i ≤ j → j < i + q → inB (od j) 24 = true ∧ ¬ od j = nI a) → rg a = -1 → (gRs fi la ov od w q i rg rh).1 a = -1 := by
  intro q
  induction q with
  | zero => intro i rg rh _ h; exact h
  | succ q ih =>
    intro i rg rh hod h
    rw [gRs]
    by_cases e : ovB ov (od i) = true
    · rw [if_pos e]; exact ih (i + 1) rg rh (fun j h1 h2 => hod j (by omega) (by omega)) h
    · rw [if_neg e]
      exact ih (i + 1) _ _ (fun j h1 h2 => hod j (by omega) (by omega)) (gvR_keep (hod i (Nat.le_refl _) (by omega)).1 (hod i (Nat.le_refl _) (by omega)).2 ha h)
theorem cR_cM (h : ∀ a, a < 24 → mi a = 0 → rg a = -1) : ∀ (q v c : Nat), q + v = 24 → cR rg q v c = cM 1 mi rg q v c := by
  intro q
  induction q with
  | zero => intro v c _; rfl
  | succ q ih =>
    intro v c hq
    rw [cR, cM, if_neg (show ¬ (1 : Int32) = 0 by decide)]
    by_cases e : mi v = 0
    · rw [if_pos e, if_pos (h v (by omega) e)]; exact ih _ _ (by omega)
    · rw [if_neg e]
      by_cases e2 : rg v = -1
      · rw [if_pos e2, if_pos e2]; exact ih _ _ (by omega)
      · rw [if_neg e2, if_neg e2]; exact ih _ _ (by omega)
theorem val_eq {od : Nat → Int32} {wo : Nat} (hb : baseR fi la mf ml mi mo ov od wo) (v what : Int32) : valC 1 fi la ov rg sl v what = valM 1 mf ml mi mo rg sl v what := by
  unfold valC valM
  rw [if_neg (show ¬ (1 : Int32) = 0 by decide), if_neg (show ¬ (1 : Int32) = 0 by decide)]
  by_cases hv : inB v 24 = true
  · obtain ⟨a, ha, rfl⟩ := inB_j hv (by decide)
    rw [if_pos hv, nI_clamp (by omega)]
    by_cases hm : mi a = 0
    · rw [if_pos hm, if_neg (fun z => (baseR_ar hb ha).mp z hm)]
    · obtain ⟨e1, e2, -, -⟩ := baseR_eqv hb ha hm
      rw [if_neg hm, if_pos ((baseR_ar hb ha).mpr hm), fO_nI ha, fO_nI ha, rO_nI ha, rO_nI ha, ovB_nI ha, ← e1, ← e2, hb.2.2 a ha]
      unfold pNA
      by_cases eo : ov a = 0
      · rw [if_pos eo, if_neg (fun z : decide (¬ ov a = 0) = true => of_decide_eq_true z eo)]
      · rw [if_neg eo, if_pos (decide_eq_true eo : decide (¬ ov a = 0) = true)]
  · have hz : ¬ arB la v = true := fun z => hv (by unfold arB at z; rw [Bool.and_eq_true] at z; exact z.1)
    rw [if_neg hv, if_neg hz]
end LIP
section LIS
variable {n w wr ns k sp np : Nat} {fk fa fb fc ff fi la ov rg sl mf ml mi mo od : Nat → Int32} {sca rn stl sta : Int32}
/-- a value that is live or set somewhere is -/
theorem tRx_la (hn : n ≤ 60) {v : Nat} : ∀ (q k : Nat) (fi la : Nat → Int32), q + k = n → ¬ la v = -2 → ¬ (ftK n fk fa ff v q k fi la).2 v = -2 := by
  intro q
  induction q with
  | zero => intro k fi la _ h; exact h
  | succ q ih =>
    intro k fi la hq h
    have n1 : ¬ nI (2 * k) = -2 := m2_lt (by rw [nI_toInt (by omega)]; omega)
    have n2 : ¬ nI (2 * k + 1) = -2 := m2_lt (by rw [nI_toInt (by omega)]; omega)
    rw [ftK]
    by_cases h1 : hasB ff (nI k) (nI v) = true
    · rw [if_pos h1]
      by_cases h2 : sA n fk fa (nI k) = nI v
      · rw [if_pos h2]; exact ih (k + 1) _ _ (by omega) (by rw [pk_us]; exact n2)
      · rw [if_neg h2]; exact ih (k + 1) _ _ (by omega) (by rw [pk_us]; exact n1)
    · rw [if_neg h1]
      by_cases h2 : sA n fk fa (nI k) = nI v
      · rw [if_pos h2]; exact ih (k + 1) _ _ (by omega) (by rw [pk_us]; exact n2)
      · rw [if_neg h2]; exact ih (k + 1) _ _ (by omega) h
theorem tRx_is (hn : n ≤ 60) {v j : Nat} (hj : hasB ff (nI j) (nI v) = true ∨ sA n fk fa (nI j) = nI v) : ∀ (q k : Nat) (fi la : Nat → Int32), q + k = n → k ≤ j → j < n → ¬ (ftK n fk fa ff v q k fi la).2 v = -2 := by
  intro q
  induction q with
  | zero => intro k fi la hq h1 h2; omega
  | succ q ih =>
    intro k fi la hq hkj hjn
    have n1 : ¬ nI (2 * k) = -2 := m2_lt (by rw [nI_toInt (by omega)]; omega)
    have n2 : ¬ nI (2 * k + 1) = -2 := m2_lt (by rw [nI_toInt (by omega)]; omega)
    rw [ftK]
    by_cases h1 : hasB ff (nI k) (nI v) = true
    · rw [if_pos h1]
      by_cases h2 : sA n fk fa (nI k) = nI v
      · rw [if_pos h2]; exact tRx_la hn q (k + 1) _ _ (by omega) (by rw [pk_us]; exact n2)
      · rw [if_neg h2]; exact tRx_la hn q (k + 1) _ _ (by omega) (by rw [pk_us]; exact n1)
    · rw [if_neg h1]
      by_cases h2 : sA n fk fa (nI k) = nI v
      · rw [if_pos h2]; exact tRx_la hn q (k + 1) _ _ (by omega) (by rw [pk_us]; exact n2)
      · rw [if_neg h2]
        have : k ≠ j := by
          intro e
          subst e
          exact hj.elim h1 h2
        exact ih (k + 1) _ _ (by omega) (by omega) hjn
theorem scLa_ne (hn : n ≤ 60) {v j : Nat} (hv : v < 24) (hjn : j < n) (hj : hasB ff (nI j) (nI v) = true ∨ sA n fk fa (nI j) = nI v) : ¬ scLa n fk fa ff v = -2 := by
  obtain ⟨hi, hl, hl2, e1, e2⟩ := (ftO_at (n := n) (fk := fk) (fa := fa) (ff := ff) 24 0 (fun _ => -2) (fun _ => -2) rfl (fun _ _ _ => rfl) v hv).2 (Nat.zero_le _)
  have f2 : scLa n fk fa ff v = _ := e2
  rw [f2]
  exact tRx_is hn hj n 0 _ _ (by omega) (Nat.zero_le _) hjn
theorem LI.scan {ns2 : Nat} {mf2 ml2 mi2 mo2 : Nat → Int32} (h : LI n fk fa fb fc w sca rn stl ff wr ns fi la ov rg sl k sp np sta mf ml mi mo)
    (hbR : baseR (scFi n fk fa (ffL n fk fa fb fc)) (scLa n fk fa (ffL n fk fa fb fc)) mf2 ml2 mi2 mo2 (scOv n fk fa (ffL n fk fa fb fc) ov) (scOd n fk fa (ffL n fk fa fb fc) od) (scWo n fk fa (ffL n fk fa fb fc) od)) (hns4 : ns2 ≤ 24)
    (hpl : ∀ a, a < 24 → ¬ mi2 a = 0 → plOk (scRg n fk fa (ffL n fk fa fb fc) ov od w) (scSl n fk fa (ffL n fk fa fb fc) ov od w) a) :
    LI n fk fa fb fc w 1 0 0 (flw n fk fa fb fc 61 (fun _ => 0) 1) w ns2 (scFi n fk fa (flw n fk fa fb fc 61 (fun _ => 0) 1)) (scLa n fk fa (flw n fk fa fb fc 61 (fun _ => 0) 1)) (scOv n fk fa (flw n fk fa fb fc 61 (fun _ => 0) 1) ov) (scRg n fk fa (flw n fk fa fb fc 61 (fun _ => 0) 1) ov od w) (scSl n fk fa (flw n fk fa fb fc 61 (fun _ => 0) 1) ov od w) k sp np 0 mf2 ml2 mi2 mo2 := by
  have hn := h.hn
  have hok := h.hok
  have his : ∀ v j, v < 24 → j < n → (hasB (ffL n fk fa fb fc) (nI j) (nI v) = true ∨ sA n fk fa (nI j) = nI v) → ¬ mi2 v = 0 := fun v j hv hj hh => (baseR_ar hbR hv).mp (by rw [arB_nI hv]; exact decide_eq_true (scLa_ne hn hv hj hh))
  refine ⟨h.1, ⟨Or.inr rfl, Or.inl rfl, fun z => absurd z (by decide)⟩, ⟨fun _ => rfl, fun _ => rfl⟩, ⟨h.hw8, hns4, h.hk, h.hsp, h.hnp⟩, rfl, fun _ => val_eq hbR, fun _ => ?_, fun _ j hj v hv hh => ?_, fun _ j hj u hu hh => ?_⟩
  · refine cR_cM (fun a ha hm => ?_) 24 0 0 rfl
    show (gRs _ _ _ _ _ _ _ _ _).1 a = -1
    refine gRs_keep ha _ 0 _ _ (fun j _ hj => ?_) rfl
    obtain ⟨b, hb9, eb, hab⟩ := hbR.1.2.1 j (Nat.lt_of_lt_of_eq hj (Nat.zero_add _))
    refine ⟨(congrArg (fun z => inB z 24) eb).trans (by show inB (nI b) 24 = true; rw [inB_nI (by omega)]; exact decide_eq_true hb9), fun e => ?_⟩
    have : a = b := nI_inj (by omega) (by omega) (e.symm.trans eb)
    subst this
    exact (baseR_ar hbR ha).mp hab hm
  · refine hpl v hv (his v j hv hj ?_)
    rcases hh with hh | hh
    · exact Or.inl (rd_has hn hok hv j hj (by rw [mrd_rd hn hj hv]; exact hh))
    · exact Or.inr (of_decide_eq_true hh)
  · exact hpl u hu (his u j hu (hasB_in hn hok hj hh).2 (Or.inl hh))
end LIS
section LIR
variable {n w wr ns k sp np : Nat} {fk fa fb fc ff fi la ov rg sl mf ml mi mo : Nat → Int32} {sca rn stl sta : Int32}
theorem runF_in (hn : n ≤ 60) (hok : okRow n fk fa fb fc) : ∀ (q j k sp cl np : Nat) (gr gs go : Nat → Int32), k < 61 → sp ≤ 3000 → np ≤ sp →
    ∃ k', k' < 61 ∧ (runF n fk fa fb fc rg sl q j (nI k, sp, cl, np, gr, gs, go)).2.1 = nI k' ∧ (runF n fk fa fb fc rg sl q j (nI k, sp, cl, np, gr, gs, go)).2.2.1 ≤ 3000 ∧ (runF n fk fa fb fc rg sl q j (nI k, sp, cl, np, gr, gs, go)).2.2.2.2.1 ≤ (runF n fk fa fb fc rg sl q j (nI k, sp, cl, np, gr, gs, go)).2.2.1 := by
  intro q
  induction q with
  | zero => intro j k sp cl np gr gs go h1 h2 h3; exact ⟨k, h1, rfl, h2, h3⟩
  | succ q ih =>
    intro j k sp cl np gr gs go h1 h2 h3
    rw [runF]
    by_cases e : rst 1 n fk (nI k, sp, cl, np, gr, gs, go).1 (nI k, sp, cl, np, gr, gs, go).2.1 = 1
    · rw [if_pos e]
      obtain ⟨hkn, hne, hs3⟩ := rst_go hn h1 h2 e
      obtain ⟨u, hu, eu⟩ := nx_in (X := rdM rg sl gr gs (lA n fk fa fb (nI k))) hn hok hkn hne
      have hs : stpM n fk fa fb fc rg sl (nI k, sp, cl, np, gr, gs, go) = (nI u, sp + 1, (stpM n fk fa fb fc rg sl (nI k, sp, cl, np, gr, gs, go)).2.2.1, (stpM n fk fa fb fc rg sl (nI k, sp, cl, np, gr, gs, go)).2.2.2.1, (stpM n fk fa fb fc rg sl (nI k, sp, cl, np, gr, gs, go)).2.2.2.2.1, (stpM n fk fa fb fc rg sl (nI k, sp, cl, np, gr, gs, go)).2.2.2.2.2.1, (stpM n fk fa fb fc rg sl (nI k, sp, cl, np, gr, gs, go)).2.2.2.2.2.2) := by
        rw [← eu]; rfl
      have hnp : (stpM n fk fa fb fc rg sl (nI k, sp, cl, np, gr, gs, go)).2.2.2.1 ≤ sp + 1 := by
        show stW (kA n fk (nI k)) np np np np (np + 1) np ≤ sp + 1
        exact Nat.le_trans (stW_le (Nat.le_succ _)) (by omega)
      rw [hs]
      exact ih _ _ _ _ _ _ _ _ hu (by omega) hnp
    · rw [if_neg e]; exact ⟨k, h1, rfl, h2, h3⟩
theorem LI.run {q cl : Nat} {gr gs go : Nat → Int32} (h : LI n fk fa fb fc w sca rn stl ff wr ns fi la ov rg sl k sp np sta mf ml mi mo) (h1 : sta = 1) :
    ∃ k', (runF n fk fa fb fc rg sl q 0 (nI k, sp, cl, np, gr, gs, go)).2.1 = nI k' ∧ LI n fk fa fb fc w sca rn stl ff wr ns fi la ov rg sl k' (runF n fk fa fb fc rg sl q 0 (nI k, sp, cl, np, gr, gs, go)).2.2.1 (runF n fk fa fb fc rg sl q 0 (nI k, sp, cl, np, gr, gs, go)).2.2.2.2.1 (rst 1 n fk (nI k') (runF n fk fa fb fc rg sl q 0 (nI k, sp, cl, np, gr, gs, go)).2.2.1) mf ml mi mo := by
  obtain ⟨k', a1, a2, a3, a4⟩ := runF_in (rg := rg) (sl := sl) h.hn h.hok q 0 k sp cl np gr gs go h.hk h.hsp h.hnp
  have hr : ¬ rn = 0 := fun e => absurd ((h.st0.mpr e).symm.trans h1) (by decide)
  exact ⟨k', a2, h.1, h.2.1, h.2.2.1, ⟨h.hwr, h.hns, a1, a3, a4⟩, (rst_nz hr).symm, h.2.2.2.2.2⟩
/-! equal answers -/
theorem LI.v_eq (h : LI n fk fa fb fc w sca rn stl ff wr ns fi la ov rg sl k sp np sta mf ml mi mo) (v what : Int32) : valC sca fi la ov rg sl v what = valM sca mf ml mi mo rg sl v what := by
  rcases h.hsca with e | e
  · unfold valC valM
    rw [if_pos e, if_pos e]
  · exact h.hval e v what
theorem LI.t_eq {cl : Nat} (h : LI n fk fa fb fc w sca rn stl ff wr ns fi la ov rg sl k sp np sta mf ml mi mo) (what : Int32) : totC what sca rn n wr (nI ns) rg fk sp cl np (nI k) = totM what sca sta n wr ns (cM sca mi rg 24 0 0) sp cl np (nI k) := by
  have hs : ∀ x : Int32, (if rn = 0 then (0 : Int32) else x) = if sta = 0 then 0 else x := by
    intro x
    by_cases e : rn = 0
    · rw [if_pos e, if_pos (h.st0.mpr e)]
    · rw [if_neg e, if_neg (fun z => e (h.st0.mp z))]
  have hc : (if sca = 0 then (0 : Int32) else nI (cR rg 24 0 0)) = nI (cM sca mi rg 24 0 0) := by
    rcases h.hsca with e | e
    · rw [if_pos e, cM, if_pos e]; rfl
    · rw [if_neg (by rw [e]; decide), h.hcnt e]
  unfold totC totM
  rw [hs, hs, hs, hs, hc, ← h.hst]
theorem LI.l_eq (h : LI n fk fa fb fc w sca rn stl ff wr ns fi la ov rg sl k sp np sta mf ml mi mo) (x v : Int32) : b2i (hasB (flw n fk fa fb fc 61 (fun _ => 0) 1) x v) = b2i (inB x n && (inB v 24 && hasB (flw n fk fa fb fc 61 (fun _ => 0) 1) x v)) := by
  congr 1
  refine b_eq ⟨fun z => ?_, fun z => ?_⟩
  · have hx : inB x 61 = true := by
      by_cases e : inB x 61 = true
      · exact e
      · unfold hasB sH at z
        rw [if_neg e, show (0 : Int32) &&& bitV v = 0 from b_ext (fun i _ => by rw [b_and, b_0, Bool.false_and])] at z
        exact absurd z (by decide)
    obtain ⟨j, hj, rfl⟩ := inB_j hx (by decide)
    obtain ⟨h1, h2⟩ := hasB_in h.hn h.hok hj z
    rw [Bool.and_eq_true, Bool.and_eq_true]
    exact ⟨by rw [inB_nI (by omega)]; exact decide_eq_true h2, h1, z⟩
  · simp only [Bool.and_eq_true] at z
    exact z.2.2
theorem mA_eq {f : Nat → Int32} {a b : Nat} {i : Int32} (h : inB i a = true) (hab : a ≤ b) : mA f b i = f i.toNatClampNeg := if_pos (inB_mono h hab)
theorem kO_eq {go : Nat → Int32} {i : Int32} (h : inB i (min np 300) = true) : kO go np i = go i.toNatClampNeg := if_pos h
theorem slot_in {i : Int32} (hns : ns ≤ 24) : (¬ i < 0 ∧ i < nI ns) ↔ inB i ns = true := by
  unfold inB
  rw [decide_eq_true_eq, Int32.lt_iff_toInt_lt, Int32.lt_iff_toInt_lt, nI_toInt (by omega), show ((0 : Int32)).toInt = 0 from by decide]
  omega
end LIR
theorem lw_len {L t : Nat} (hL : L ≤ 2560) (ht : 5 * t ≤ 2560) (h : ¬ nI L - 5 < nI (5 * t)) : 5 * t + 5 ≤ L := by
  by_cases q : 5 ≤ L
  · have e : nI L - 5 = nI (L - 5) := by
      have := nI_add (L - 5) 5
      rw [show L - 5 + 5 = L by omega] at this
      rw [← this]
      exact Int32.add_sub_cancel _ _
    rw [e, nI_ltI (by omega) (by omega)] at h
    omega
  · refine absurd ?_ h
    rw [Int32.lt_iff_toInt_lt, nI_toInt (n := 5 * t) (by omega)]
    have : L = 0 ∨ L = 1 ∨ L = 2 ∨ L = 3 ∨ L = 4 := by omega
    have h0 : (nI L - 5).toInt < 0 := by
      rcases this with h | h | h | h | h <;> subst h <;> decide
    omega
