/-! The class's masks hold liveness. (bt and its rows: begun as kit/laws/BITS.to-paste.) -/
def bt (x : Int32) (i : Nat) : Bool := x.toBitVec.getLsbD i
theorem b_or (x y : Int32) (i : Nat) : bt (x ||| y) i = (bt x i || bt y i) := by unfold bt; rw [Int32.toBitVec_or, BitVec.getLsbD_or]
theorem b_and (x y : Int32) (i : Nat) : bt (x &&& y) i = (bt x i && bt y i) := by unfold bt; rw [Int32.toBitVec_and, BitVec.getLsbD_and]
theorem b_xor (x y : Int32) (i : Nat) : bt (x ^^^ y) i = (bt x i ^^ bt y i) := by unfold bt; rw [Int32.toBitVec_xor, BitVec.getLsbD_xor]
theorem b_m1 : ∀ i, i < 32 → bt (-1) i = true := by decide +kernel
theorem b_0 (i : Nat) : bt 0 i = false := BitVec.getLsbD_zero
theorem b_one : ∀ w, w < 24 → ∀ v, v < 24 → bt ((1 : Int32) <<< (nI w &&& 31)) v = decide (w = v) := by decide +kernel
theorem b_and1 : ∀ v, v < 24 → ∀ i, i < 32 → bt ((1 : Int32) <<< (nI v &&& 31)) i = decide (v = i) := by decide +kernel
theorem b_ext {x y : Int32} (h : ∀ i, i < 32 → bt x i = bt y i) : x = y := Int32.toBitVec_inj.mp (BitVec.eq_of_getLsbD_eq (fun i hi => h i hi))
theorem nI_inj {a b : Nat} (ha : a < 2 ^ 31) (hb : b < 2 ^ 31) (h : nI a = nI b) : a = b := (nI_eq ha hb).mp h
theorem bt_bit {x : Int32} {v : Nat} (hv : v < 24) : bt (bitV x) v = decide (x = nI v) := by
  unfold bitV
  by_cases h : inB x 24 = true
  · rw [if_pos h]
    obtain ⟨w, hw, rfl⟩ := inB_j h (by decide)
    rw [b_one w hw v hv]
    congr 1
    simp only [eq_iff_iff]
    exact ⟨fun z => by rw [z], fun z => nI_inj (by omega) (by omega) z⟩
  · rw [if_neg h, b_0]
    refine (decide_eq_false fun z => h ?_).symm
    rw [z, inB_nI (by omega)]
    exact decide_eq_true hv
theorem bt_andz {x : Int32} {v : Nat} (hv : v < 24) : (¬ x &&& bitV (nI v) = 0) ↔ bt x v = true := by
  have hb : bitV (nI v) = 1 <<< (nI v &&& 31) := if_pos (by rw [inB_nI (by omega)]; exact decide_eq_true hv)
  constructor
  · intro h
    cases hx : bt x v with
    | true => rfl
    | false =>
      refine absurd (b_ext fun i hi => ?_) h
      rw [b_and, hb, b_and1 v hv i hi, b_0]
      by_cases e : v = i
      · subst e; rw [hx]; rfl
      · rw [decide_eq_false e, Bool.and_false]
  · intro h z
    have q := b_and x (bitV (nI v)) v
    rw [z, b_0, h, hb, b_one v hv v hv, decide_eq_true rfl] at q
    exact absurd q (by decide)
/-- every op that there is is one that op(..) took -/
def okRow (n : Nat) (fk fa fb fc : Nat → Int32) : Prop := ∀ k, k < n → okOp (fk k) (fa k) (fb k) (fc k) = true
theorem kA_nI {n k : Nat} {fk : Nat → Int32} (hk : k < n) (hn : n ≤ 60) : kA n fk (nI k) = fk k := by
  unfold kA
  rw [if_pos (by rw [inB_nI (by omega)]; exact decide_eq_true hk), nI_clamp (by omega)]
def tgN (fk fa fb : Nat → Int32) (k : Nat) : Nat := if fk k = 7 then (fa k).toNatClampNeg else (fb k).toNatClampNeg
def rdB (n : Nat) (fk fa fb fc : Nat → Int32) (v k : Nat) : Bool := decide (lA n fk fa fb (nI k) = nI v) || decide (rA n fk fc (nI k) = nI v)
def stB (n : Nat) (fk fa : Nat → Int32) (v k : Nat) : Bool := decide (sA n fk fa (nI k) = nI v)
/-- live in the row -/
def LiveR (n : Nat) (fk fa fb fc : Nat → Int32) (v k : Nat) : Prop := li_Live n fk (tgN fk fa fb) (rdB n fk fa fb fc v) (stB n fk fa v) k
theorem sH_nI {ff : Nat → Int32} {k : Nat} (hk : k < 61) : sH ff (nI k) = ff k := by
  unfold sH
  rw [if_pos (by rw [inB_nI (by omega)]; exact decide_eq_true hk), nI_clamp (by omega)]
theorem sH_in {ff : Nat → Int32} {x : Int32} (h : inB x 61 = true) : sH ff x = ff x.toNatClampNeg := if_pos h
theorem ok7 {a b c : Int32} {k : Int32} (h : okOp k a b c = true) (h7 : k = 7) : inB a 61 = true := by
  subst h7; simpa [okOp] using h
theorem ok8 {a b c : Int32} {k : Int32} (h : okOp k a b c = true) (h8 : k = 8) : inB a 24 = true ∧ inB b 61 = true := by
  subst h8; simpa [okOp] using h
section MSK
variable {n : Nat} {fk fa fb fc : Nat → Int32} {v : Nat}
theorem fnd_bt (hn : n ≤ 60) (hok : okRow n fk fa fb fc) (hv : v < 24) {ff : Nat → Int32} {k : Nat} (hk : k < n) :
    bt (fnd n fk fa fb fc ff (nI k)) v = li_stp n fk (tgN fk fa fb) (rdB n fk fa fb fc v) (stB n fk fa v) (fun j => bt (ff j) v) k := by
  have hkA : kA n fk (nI k) = fk k := kA_nI hk hn
  have e1 : nI k + 1 = nI (k + 1) := nI_1 k
  have hs : bt (sBh n fk fa fb ff (nI k)) v = li_nx fk (tgN fk fa fb) (fun j => bt (ff j) v) k := by
    unfold sBh li_nx tA tgN
    rw [hkA, e1, sH_nI (show k + 1 < 61 by omega), nI_clamp (show k < 2 ^ 31 by omega)]
    by_cases h7 : fk k = 7
    · simp only [h7, if_true]
      rw [sH_in (ok7 (hok k hk) h7)]
    · simp only [if_neg h7]
      by_cases h8 : fk k = 8
      · simp only [h8, if_true]
        rw [sH_in (ok8 (hok k hk) h8).2, b_or]
      · simp only [if_neg h8]
        by_cases h11 : fk k = 11
        · simp only [h11, if_true]; exact b_0 v
        · simp only [if_neg h11]
  unfold fnd li_stp rdB stB
  rw [b_or, b_or, b_and, b_xor, bt_bit hv, bt_bit hv, bt_bit hv, b_m1 v (by omega), hs, decide_eq_true hk]
  simp only [Bool.true_and, Bool.bne_true, Bool.xor_true]
theorem swp_ok (hn : n ≤ 60) (hok : okRow n fk fa fb fc) (hv : v < 24) : ∀ (j : Nat) (ff : Nat → Int32) (ch : Int32), j ≤ n →
    (∀ k, bt (ff k) v = true → li_stp n fk (tgN fk fa fb) (rdB n fk fa fb fc v) (stB n fk fa v) (fun i => bt (ff i) v) k = true) →
    (∀ k, bt (ff k) v = true → LiveR n fk fa fb fc v k) →
    (∀ k, bt (ff k) v = true → bt ((swp n fk fa fb fc j ff ch).1 k) v = true) ∧
    (∀ k, bt ((swp n fk fa fb fc j ff ch).1 k) v = true → li_stp n fk (tgN fk fa fb) (rdB n fk fa fb fc v) (stB n fk fa v) (fun i => bt ((swp n fk fa fb fc j ff ch).1 i) v) k = true) ∧
    (∀ k, bt ((swp n fk fa fb fc j ff ch).1 k) v = true → LiveR n fk fa fb fc v k) ∧
    (∀ k, k < j → li_stp n fk (tgN fk fa fb) (rdB n fk fa fb fc v) (stB n fk fa v) (fun i => bt (ff i) v) k = true → bt ((swp n fk fa fb fc j ff ch).1 k) v = true) := by
  intro j
  induction j with
  | zero => intro ff ch _ hp hs; exact ⟨fun k z => z, hp, hs, fun k z => absurd z (Nat.not_lt_zero _)⟩
  | succ j ih =>
    intro ff ch hj hp hs
    have hfb := fnd_bt hn hok hv (ff := ff) (k := j) (by omega)
    -- the row behind this op's turn
    have key : ∃ (f1 : Nat → Int32) (c1 : Int32), swp n fk fa fb fc (j + 1) ff ch = swp n fk fa fb fc j f1 c1 ∧ f1 j = fnd n fk fa fb fc ff (nI j) ∧ ∀ k, k ≠ j → f1 k = ff k := by
      by_cases q : fnd n fk fa fb fc ff (nI j) = ff j
      · exact ⟨ff, ch, by rw [swp, if_pos q], q.symm, fun _ _ => rfl⟩
      · exact ⟨upd ff j (fnd n fk fa fb fc ff (nI j)), 1, by rw [swp, if_neg q], pk_us, fun k hk => pk_un hk⟩
    obtain ⟨f1, c1, e, ej, eo⟩ := key
    rw [e]
    have up : ∀ k, bt (ff k) v = true → bt (f1 k) v = true := by
      intro k z
      by_cases q : k = j
      · subst q; rw [ej, hfb]; exact hp k z
      · rw [eo k q]; exact z
    have hp1 : ∀ k, bt (f1 k) v = true → li_stp n fk (tgN fk fa fb) (rdB n fk fa fb fc v) (stB n fk fa v) (fun i => bt (f1 i) v) k = true := by
      intro k z
      refine li_stp_mono up k ?_
      by_cases q : k = j
      · subst q; rw [ej, hfb] at z; exact z
      · rw [eo k q] at z; exact hp k z
    have hs1 : ∀ k, bt (f1 k) v = true → LiveR n fk fa fb fc v k := by
      intro k z
      by_cases q : k = j
      · subst q; rw [ej, hfb] at z; exact li_Live_step hs z
      · rw [eo k q] at z; exact hs k z
    obtain ⟨a1, a2, a3, a4⟩ := ih f1 c1 (by omega) hp1 hs1
    refine ⟨fun k z => a1 k (up k z), a2, a3, fun k hk z => ?_⟩
    by_cases q : k = j
    · subst q; exact a1 k (by rw [ej, hfb]; exact z)
    · exact a4 k (by omega) (li_stp_mono up k z)
/-- the mark stays once set -/
theorem swp_ch : ∀ (j : Nat) (ff : Nat → Int32), (swp n fk fa fb fc j ff 1).2 = 1 := by
  intro j
  induction j with
  | zero => intro ff; rfl
  | succ j ih =>
    intro ff
    by_cases q : fnd n fk fa fb fc ff (nI j) = ff j
    · rw [swp, if_pos q]; exact ih ff
    · rw [swp, if_neg q]; exact ih _
theorem swp_ch0 : ∀ (j : Nat) (ff : Nat → Int32), (swp n fk fa fb fc j ff 0).2 = 0 → (swp n fk fa fb fc j ff 0).1 = ff ∧ ∀ k, k < j → fnd n fk fa fb fc ff (nI k) = ff k := by
  intro j
  induction j with
  | zero => intro ff _; exact ⟨rfl, fun k z => absurd z (Nat.not_lt_zero _)⟩
  | succ j ih =>
    intro ff
    by_cases q : fnd n fk fa fb fc ff (nI j) = ff j
    · rw [swp, if_pos q]
      intro z
      obtain ⟨a, b⟩ := ih ff z
      refine ⟨a, fun k hk => ?_⟩
      by_cases e : k = j
      · subst e; exact q
      · exact b k (by omega)
    · rw [swp, if_neg q]
      intro z
      rw [swp_ch] at z
      exact absurd z (by decide)
theorem swp_01 : ∀ (j : Nat) (ff : Nat → Int32) (ch : Int32), (ch = 0 ∨ ch = 1) → ((swp n fk fa fb fc j ff ch).2 = 0 ∨ (swp n fk fa fb fc j ff ch).2 = 1) := by
  intro j
  induction j with
  | zero => intro ff ch h; exact h
  | succ j ih =>
    intro ff ch h
    by_cases q : fnd n fk fa fb fc ff (nI j) = ff j
    · rw [swp, if_pos q]; exact ih ff ch h
    · rw [swp, if_neg q]; exact ih _ 1 (Or.inr rfl)
theorem flw_ok (hn : n ≤ 60) (hok : okRow n fk fa fb fc) (hv : v < 24) : ∀ (q i : Nat) (ff : Nat → Int32) (ch : Int32), q + i = 61 →
    (∀ k, bt (ff k) v = true → li_stp n fk (tgN fk fa fb) (rdB n fk fa fb fc v) (stB n fk fa v) (fun i => bt (ff i) v) k = true) →
    (∀ k, bt (ff k) v = true → LiveR n fk fa fb fc v k) →
    (∀ k, li_L n fk (tgN fk fa fb) (rdB n fk fa fb fc v) (stB n fk fa v) i k = true → bt (ff k) v = true) →
    (ch = 0 → ∀ k, k < n → fnd n fk fa fb fc ff (nI k) = ff k) →
    ∀ k, bt ((flw n fk fa fb fc q ff ch) k) v = true ↔ LiveR n fk fa fb fc v k := by
  intro q
  induction q with
  | zero =>
    intro i ff ch hi hp hs hL hc k
    show bt (ff k) v = true ↔ _
    exact ⟨hs k, fun z => hL k (li_L_all (by omega) z)⟩
  | succ q ih =>
    intro i ff ch hi hp hs hL hc k
    by_cases c0 : ch = 0
    · rw [flw, if_pos c0]
      refine ⟨hs k, fun z => li_fixL (g := fun j => bt (ff j) v) (fun j hj => ?_) z⟩
      have hjn : j < n := (li_stp_iff.mp hj).1
      show bt (ff j) v = true
      rw [← hc c0 j hjn, fnd_bt hn hok hv hjn]
      exact hj
    · rw [flw, if_neg c0]
      obtain ⟨a1, a2, a3, a4⟩ := swp_ok hn hok hv n ff 0 (Nat.le_refl n) hp hs
      refine ih (i + 1) _ _ (by omega) a2 a3 (fun j hj => a4 j (li_stp_iff.mp hj).1 (li_stp_mono hL j hj)) (fun z => ?_) k
      obtain ⟨b1, b2⟩ := swp_ch0 n ff z
      rw [b1]
      exact b2
/-- THE CLASS'S LIVENESS -/
theorem flw_live (hn : n ≤ 60) (hok : okRow n fk fa fb fc) (hv : v < 24) (k : Nat) : bt (flw n fk fa fb fc 61 (fun _ => 0) 1 k) v = true ↔ LiveR n fk fa fb fc v k :=
  flw_ok hn hok hv 61 0 (fun _ => 0) 1 rfl (fun k z => absurd z (by rw [b_0]; decide)) (fun k z => absurd z (by rw [b_0]; decide)) (fun k z => absurd z (by simp [li_L])) (fun z => absurd z (by decide)) k
theorem hasB_live (hn : n ≤ 60) (hok : okRow n fk fa fb fc) (hv : v < 24) {k : Nat} (hk : k < 61) : hasB (flw n fk fa fb fc 61 (fun _ => 0) 1) (nI k) (nI v) = true ↔ LiveR n fk fa fb fc v k := by
  unfold hasB
  rw [decide_eq_true_eq, sH_nI hk, bt_andz hv]
  exact flw_live hn hok hv k
end MSK
