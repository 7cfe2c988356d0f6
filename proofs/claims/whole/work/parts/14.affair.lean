/-! the class's affairs -/
theorem RA.sP {μ : QM} {j w k v : Nat} {s : AS} (h : RA μ j s) : RA (qsi μ (3, j, w) k (zI v)) j (setP s w k v) := by
  obtain ⟨h1, h2, h3, h4, h5⟩ := h
  have e1 : (qsi μ (3, j, w) k (zI v)).1 (2, j, 0) = μ.1 (2, j, 0) := qsi_ne (by simp)
  have e2 : ∀ c, (qsi μ (3, j, w) k (zI v)).1 (1, j, c) = μ.1 (1, j, c) := fun c => qsi_ne (by simp)
  refine ⟨by rw [e1]; exact h1, by rw [e1]; exact h2, fun w' k' hw hk => ?_, fun c k' hc hk => by rw [e2]; exact h4 c k' hc hk, fun c hc => by rw [e2]; exact h5 c hc⟩
  have := h3 w' k' hw hk
  show (if (3, j, w') = (3, j, w) ∧ k' = k then zI v else μ.1 (3, j, w') k') = zI ((if w' = w ∧ k' = k then v else aP s w' k' : Nat) : Int)
  by_cases e : w' = w ∧ k' = k
  · rw [if_pos e, if_pos (by simp [e])]
  · rw [if_neg e, if_neg (by simpa using e)]; exact this
theorem RA.sD {μ : QM} {j v : Nat} {s : AS} (h : RA μ j s) : RA (qsi μ (2, j, 0) 0 (zI v)) j (setD s v) := by
  obtain ⟨h1, h2, h3, h4, h5⟩ := h
  have e1 : ∀ w, (qsi μ (2, j, 0) 0 (zI v)).1 (3, j, w) = μ.1 (3, j, w) := fun w => qsi_ne (by simp)
  have e2 : ∀ c, (qsi μ (2, j, 0) 0 (zI v)).1 (1, j, c) = μ.1 (1, j, c) := fun c => qsi_ne (by simp)
  exact ⟨qsi_self _ _ _ _, (if_neg (by simp)).trans h2, fun w' k' hw hk => by rw [e1]; exact h3 w' k' hw hk, fun c k' hc hk => by rw [e2]; exact h4 c k' hc hk, fun c hc => by rw [e2]; exact h5 c hc⟩
theorem RA.sC {μ : QM} {j c k v : Nat} {s : AS} (h : RA μ j s) (hk2 : 2 ≤ k) (hk5 : k < 5) : RA (qsi μ (1, j, c) k (zI v)) j (setC s c k v) := by
  obtain ⟨h1, h2, h3, h4, h5⟩ := h
  have e1 : (qsi μ (1, j, c) k (zI v)).1 (2, j, 0) = μ.1 (2, j, 0) := qsi_ne (by simp)
  have e2 : ∀ w, (qsi μ (1, j, c) k (zI v)).1 (3, j, w) = μ.1 (3, j, w) := fun w => qsi_ne (by simp)
  refine ⟨by rw [e1]; exact h1, by rw [e1]; exact h2, fun w' k' hw hk => by rw [e2]; exact h3 w' k' hw hk, fun c' k' hc hk => ?_, fun c' hc => ?_⟩
  · have := h4 c' k' hc hk
    show (if (1, j, c') = (1, j, c) ∧ k' = k then zI v else μ.1 (1, j, c') k') = zI ((if c' = c ∧ k' = k then v else aC s c' k' : Nat) : Int)
    by_cases e : c' = c ∧ k' = k
    · rw [if_pos e, if_pos (by simp [e])]
    · rw [if_neg e, if_neg (by simpa using e)]; exact this
  · have := h5 c' hc
    have e3 : aC (setC s c k v) c' 0 = aC s c' 0 := if_neg (by omega)
    have e4 : aC (setC s c k v) c' 1 = aC s c' 1 := if_neg (by omega)
    unfold aK aW at this ⊢
    rw [e3, e4, ← this.1, ← this.2]
    exact ⟨if_neg (by omega), if_neg (by omega)⟩
theorem RA.eq {μ : QM} {j : Nat} {s s' : AS} (h : RA μ j s) (e : s = s') : RA μ j s' := e ▸ h
/-- what the end of a day wants -/
def okE (s : AS) : Prop := aD s ≤ 83 ∧ ∀ w, w < 2 → aP s w 0 ≤ 6 ∧ aP s w 1 ≤ 999 ∧ aP s w 4 ≤ 1
theorem aOK.e {s : AS} (ok : aOK s) : okE s := ⟨ok.1, fun _ hw => ⟨(ok.p hw).1, (ok.p hw).2.1, (ok.p hw).2.2.2.2⟩⟩
theorem c_Person_isDueOnE (d : Nat) {j w : Nat} {s : AS} {μ : QM} (hj : j < 11) (h : RA μ j s) (ok : okE s) (hw : w < 2) : qcall qprogs (d + 1) 7 [qR (3, j, w), qI (zI (aD s))] μ = some (some (qI (qB (due s w))), μ) := by
  have b1 := ok.1
  have b2 := (ok.2 w hw).1
  have b3 := (ok.2 w hw).2.2
  rw [qe_Person_isDueOn (h0 := qd3 hj hw), qb_Person_isDueOn_0, h.2.2.1 w 0 hw (by decide), h.2.2.1 w 4 hw (by decide), qbz_z b3]
  simp (disch := omega) only [zI_of, zI_0, zI_1, zI_add, zI_sub, zI_mul, zI_neg, zI_lt, zI_le, zI_eq, zI_rem, zI_oob, zI_ixN, zI_ix, zI_ite, zI10, zI01, Int.toNat_natCast, cond_false, cond_true, q01_0, q01_1, q01_0z, q01_1z, qB_if, qB_ifz, qB_ret, qB_retz, qbI_some, qbV_some, qbL_some, qbR_some, qbN_some, qbN_none, true_or, or_true, false_or, or_false, if_true, if_false, Int.reduceEq, Int.reduceLT, Int.reduceLE, Int.reduceNeg, qb_Person_isDueOn_22, qb_Person_isDueOn_23]
  unfold due
  by_cases h1 : aD s % 7 = aP s w 0
  · by_cases h2 : aP s w 4 = 0
    · first | (simp [h1, h2, qB]; done) | (simp [h1, h2, qB]; omega)
    · first | (simp [h1, h2, qB]; done) | (simp [h1, h2, qB]; omega)
  · first | (simp [h1, qB]; done) | (simp [h1, qB]; omega)
theorem c_Person_endDayE (d : Nat) {j w : Nat} {s : AS} {μ : QM} (hj : j < 11) (h : RA μ j s) (ok : okE s) (hw : w < 2) :
    ∃ μ', qcall qprogs (d + 2) 8 [qR (3, j, w), qI (zI (aD s))] μ = some (none, μ') ∧ Fr (isA j) μ μ' ∧ RA μ' j (endP s w) := by
  have b1 := (ok.2 w hw).2.1
  have b3 := ok.1
  rw [qe_Person_endDay (h0 := qd3 hj hw), qb_Person_endDay_0, c_Person_isDueOnE d hj h ok hw, qbI_some]
  simp only [qB_if, qb_Person_endDay_35, zI_of, q01_0]
  unfold endP
  cases hdue : due s w
  · simp only [cond_false]
    exact ⟨_, rfl, Fr.si ⟨Or.inr (Or.inr rfl), rfl⟩, h.sP (v := 0)⟩
  · simp only [cond_true, if_true]
    refine ⟨_, rfl, ?_, ?_⟩
    · refine Fr.si' (Fr.si' (Fr.si' Fr.rf ?_) ?_) ?_ <;> exact ⟨Or.inr (Or.inr rfl), rfl⟩
    · have e1 := h.2.2.1 w 1 hw (by decide)
      have e2 := h.2.2.1 w 2 hw (by decide)
      have v1 : μ.1 (3, j, w) 1 - (if μ.1 (3, j, w) 1 < zI 3 then μ.1 (3, j, w) 1 else zI 3) = zI (aP s w 1 - min 3 (aP s w 1) : Nat) := by
        rw [e1]
        simp (disch := omega) only [zI_of, zI_0, zI_1, zI_add, zI_sub, zI_mul, zI_neg, zI_lt, zI_le, zI_eq, zI_rem, zI_oob, zI_ixN, zI_ix, zI_ite, zI10, zI01, Int.toNat_natCast, cond_false, cond_true, q01_0, q01_1, q01_0z, q01_1z, qB_if, qB_ifz, qB_ret, qB_retz, qbI_some, qbV_some, qbL_some, qbR_some, qbN_some, qbN_none, true_or, or_true, false_or, or_false, if_true, if_false, Int.reduceEq, Int.reduceLT, Int.reduceLE, Int.reduceNeg]
        omega
      have v2 : (qsi μ (3, j, w) 1 (zI (aP s w 1 - min 3 (aP s w 1) : Nat))).1 (3, j, w) 2 + zI 1 = zI (aP s w 2 + 1 : Nat) := by
        rw [show (qsi μ (3, j, w) 1 (zI (aP s w 1 - min 3 (aP s w 1) : Nat))).1 (3, j, w) 2 = μ.1 (3, j, w) 2 from if_neg (by simp), e2, zI_add]
        rfl
      rw [v1, v2]
      exact (h.sP.sP).sP (v := 0)
theorem c_Person_endDay (d : Nat) {j w : Nat} {s : AS} {μ : QM} (hj : j < 11) (h : RA μ j s) (ok : aOK s) (hw : w < 2) :
    ∃ μ', qcall qprogs (d + 2) 8 [qR (3, j, w), qI (zI (aD s))] μ = some (none, μ') ∧ Fr (isA j) μ μ' ∧ RA μ' j (endP s w) := c_Person_endDayE d hj h ok.e hw
theorem c_Affair_person (d : Nat) {j w : Nat} {μ : QM} (hj : j < 11) (hw : w < 2) : qcall qprogs (d + 1) 10 [qR (2, j, 0), qI (zI w)] μ = some (some (qR (3, j, w)), μ) := by
  rw [qe_Affair_person (h0 := qd2 hj), qb_Affair_person_0]
  rcases (by omega : w = 0 ∨ w = 1) with rfl | rfl
  · rw [if_pos (by decide)]
    simp only [qb_Affair_person_11, qb_Affair_person_15]
  · rw [if_neg (by decide)]
    simp only [qb_Affair_person_11, qb_Affair_person_15]
theorem c_Affair_causeAt (d : Nat) {j c : Nat} {s : AS} {μ : QM} (hj : j < 11) (h : RA μ j s) (ok : aOK s) (hc : c < aN s) : qcall qprogs (d + 1) 11 [qR (2, j, 0), qI (zI c)] μ = some (some (qR (1, j, c)), μ) := by
  have h12 := ok.2.1
  rw [qe_Affair_causeAt (h0 := qd2 hj), qb_Affair_causeAt_0, h.2.1]
  simp (disch := omega) only [zI_of, zI_0, zI_1, zI_add, zI_sub, zI_mul, zI_neg, zI_lt, zI_le, zI_eq, zI_rem, zI_oob, zI_ixN, zI_ix, zI_ite, zI10, zI01, Int.toNat_natCast, cond_false, cond_true, q01_0, q01_1, q01_0z, q01_1z, qB_if, qB_ifz, qB_ret, qB_retz, qbI_some, qbV_some, qbL_some, qbR_some, qbN_some, qbN_none, true_or, or_true, false_or, or_false, if_true, if_false, Int.reduceEq, Int.reduceLT, Int.reduceLE, Int.reduceNeg, qb_Affair_causeAt_27, qb_Affair_causeAt_28, qb_Affair_causeAt_28b, if_neg (show ¬ (c : Int) < 0 by omega), if_neg (show ¬ (aN s : Int) ≤ c by omega), if_neg (show ¬ (12 : Int) ≤ c by omega)]
/-- no such cause -/
theorem c_Affair_causeAtN (d : Nat) {j : Nat} {x : Int32} {s : AS} {μ : QM} (hj : j < 11) (h : RA μ j s) (ok : aOK s) (hc : x.toInt < 0 ∨ aN s ≤ x.toInt) : qcall qprogs (d + 1) 11 [qR (2, j, 0), qI x] μ = some (some (qO none), μ) := by
  have h12 := ok.2.1
  obtain ⟨z, rfl, hz⟩ : ∃ z, x = zI z ∧ x.toInt = z := ⟨x.toInt, by unfold zI; simp, rfl⟩
  have hr : -2147483648 ≤ z ∧ z < 2147483648 := by
    rw [← hz]
    exact ⟨Int32.le_toInt _, Int32.toInt_lt _⟩
  rw [hz] at hc
  rw [qe_Affair_causeAt (h0 := qd2 hj), qb_Affair_causeAt_0, h.2.1]
  simp (disch := omega) only [zI_of, zI_0, zI_1, zI_add, zI_sub, zI_mul, zI_neg, zI_lt, zI_le, zI_eq, zI_rem, zI_oob, zI_ixN, zI_ix, zI_ite, zI10, zI01, Int.toNat_natCast, cond_false, cond_true, q01_0, q01_1, q01_0z, q01_1z, qB_if, qB_ifz, qB_ret, qB_retz, qbI_some, qbV_some, qbL_some, qbR_some, qbN_some, qbN_none, true_or, or_true, false_or, or_false, if_true, if_false, Int.reduceEq, Int.reduceLT, Int.reduceLE, Int.reduceNeg, qb_Affair_causeAt_27, qb_Affair_causeAt_28, qb_Affair_causeAt_28b]
  by_cases h1 : z < 0
  · rw [if_pos h1]
  · rw [if_neg h1, if_pos (by omega)]
theorem c_Affair_isGood (d : Nat) {j c x : Nat} {s : AS} {μ : QM} (hj : j < 11) (h : RA μ j s) (ok : aOK s) (hc : c < aN s) (hx : x ≤ 1000) : qcall qprogs (d + 2) 17 [qR (2, j, 0), qR (1, j, c), qI (zI x)] μ = some (some (qI (qB (aG s c x))), μ) := by
  have h12 := ok.2.1
  have b0 := (ok.c hc).1
  have b2 := (ok.c hc).2.2.1
  have b3 := (ok.p (w := aC s c 2) (by omega)).1
  rw [qe_Affair_isGood (h0 := qd2 hj) (h1 := qd1 hj (by omega)), qb_Affair_isGood_0, h.2.2.2.1 c 0 hc (by decide), h.2.2.2.1 c 2 hc (by decide), c_Affair_person d hj (by omega), qbR_some (qd3 hj (by omega)), h.2.2.1 _ 0 (by omega) (by decide)]
  simp only [qb_Affair_isGood_26, qb_Affair_isGood_30, qb_Affair_isGood_31, qb_Affair_isGood_48, qb_Affair_isGood_49]
  rw [c_Cause_isFreshOn d hj h ok hc hx]
  unfold aG
  simp (disch := omega) only [zI_of, zI_0, zI_1, zI_add, zI_sub, zI_mul, zI_neg, zI_lt, zI_le, zI_eq, zI_rem, zI_oob, zI_ixN, zI_ix, zI_ite, zI10, zI01, Int.toNat_natCast, cond_false, cond_true, q01_0, q01_1, q01_0z, q01_1z, qB_if, qB_ifz, qB_ret, qB_retz, qbI_some, qbV_some, qbL_some, qbR_some, qbN_some, qbN_none, true_or, or_true, false_or, or_false, if_true, if_false, Int.reduceEq, Int.reduceLT, Int.reduceLE, Int.reduceNeg]
  by_cases h1 : aC s c 0 = 4
  · rw [if_pos (by omega)]
    cases aF s c x <;> simp [h1, qB, zI_1, zI_0, zI10]
  · rw [if_neg (by omega)]
    by_cases h2 : x % 7 = aP s (aC s c 2) 0
    · rw [if_pos (by omega)]
      cases aF s c x <;> simp [h1, h2, qB]
    · rw [if_neg (by omega)]
      simp [h1, h2, qB]
theorem RA.day {μ : QM} {j : Nat} {s : AS} (h : RA μ j s) : μ.1 (2, j, 0) 0 = zI (aD s) := h.1
theorem RA.cnt {μ : QM} {j : Nat} {s : AS} (h : RA μ j s) : μ.1 (2, j, 0) 4 = zI (aN s) := h.2.1
theorem RA.p {μ : QM} {j : Nat} {s : AS} (h : RA μ j s) {w : Nat} (k : Nat) (hw : w < 2) (hk : k < 5 := by decide) : μ.1 (3, j, w) k = zI (aP s w k) := h.2.2.1 w k hw hk
theorem RA.c {μ : QM} {j : Nat} {s : AS} (h : RA μ j s) {c : Nat} (k : Nat) (hc : c < aN s) (hk : k < 5 := by decide) : μ.1 (1, j, c) k = zI (aC s c k) := h.2.2.2.1 c k hc hk
theorem RA.k {μ : QM} {j : Nat} {s : AS} (h : RA μ j s) {c : Nat} (hc : c < aN s) : μ.1 (1, j, c) 5 = zI (aK s c) := (h.2.2.2.2 c hc).1
theorem RA.w {μ : QM} {j : Nat} {s : AS} (h : RA μ j s) {c : Nat} (hc : c < aN s) : μ.1 (1, j, c) 6 = zI (aW s c) := (h.2.2.2.2 c hc).2
/-! sets of causes as numbers -/
def mk (p : Nat → Bool) : Nat → Nat
  | 0 => 0
  | n + 1 => mk p n + (bif p n then 2 ^ n else 0)
theorem mk_lt (p : Nat → Bool) : ∀ n, mk p n < 2 ^ n
  | 0 => Nat.one_pos
  | n + 1 => by
    have := mk_lt p n
    have e : 2 ^ (n + 1) = 2 ^ n + 2 ^ n := by rw [Nat.pow_succ]; omega
    unfold mk
    cases p n
    · simp only [cond_false]; omega
    · simp only [cond_true]; omega
theorem mk_t {p : Nat → Bool} {n : Nat} (h : p n = true) : mk p (n + 1) = mk p n + 2 ^ n := by simp [mk, h]
theorem mk_f {p : Nat → Bool} {n : Nat} (h : p n = false) : mk p (n + 1) = mk p n := by simp [mk, h]
theorem mk_or (p : Nat → Bool) (n : Nat) : mk p n ||| 2 ^ n = mk p n + 2 ^ n := Nat.or_two_pow_eq_add_of_lt (mk_lt p n)
theorem mk_bit (p : Nat → Bool) : ∀ n i, (mk p n).testBit i = (decide (i < n) && p i)
  | 0, i => by simp [mk]
  | n + 1, i => by
    unfold mk
    cases hp : p n
    · simp only [cond_false, Nat.add_zero, mk_bit p n i]
      by_cases h : i = n
      · subst h; simp [hp]
      · have : (i < n + 1) ↔ (i < n) := by omega
        simp [this]
    · simp only [cond_true]
      rw [← mk_or, Nat.testBit_or, mk_bit p n i, Nat.testBit_two_pow]
      by_cases h : i = n
      · subst h; simp [hp]
      · have : (i < n + 1) ↔ (i < n) := by omega
        have h2 : ¬ n = i := fun e => h e.symm
        simp [this, h2]
theorem p31 {n m : Nat} (h : n < 2 ^ m) (hm : m ≤ 30) : n < 1073741824 := Nat.lt_of_lt_of_le h (Nat.pow_le_pow_right (by decide) hm)
theorem zI_bit {c : Nat} (h : c < 31) : zI 1 <<< (zI (c : Int) &&& zI 31) = zI ((2 ^ c : Nat) : Int) := by
  have e := zI_shl (a := 1) (c := c) ⟨by omega, by
    rw [Nat.one_mul]
    exact Nat.lt_of_lt_of_le (Nat.pow_lt_pow_right (by decide) h) (by decide)⟩
  rw [Nat.one_mul, zI_31] at e
  exact e
theorem c_Affair_used (d : Nat) {j : Nat} {s : AS} {μ : QM} (hj : j < 11) (h : RA μ j s) (ok : aOK s) : qcall qprogs (d + 1) 13 [qR (2, j, 0)] μ = some (some (qI (zI (mk (fun c => decide (aC s c 4 = 1)) (aN s) : Nat))), μ) := by
  have h12 := ok.2.1
  have L : ∀ k c, c + k = aN s → qx d qc_Affair_used 4 [some (qR (2, j, 0)), some (qI (zI (mk (fun c => decide (aC s c 4 = 1)) c : Nat))), some (qI (zI c))] [] μ = some (some (qI (zI (mk (fun c => decide (aC s c 4 = 1)) (aN s) : Nat))), μ) := by
    intro k
    induction k with
    | zero =>
      intro c hc
      rw [qb_Affair_used_4, h.cnt]
      simp (disch := omega) only [zI_of, zI_0, zI_1, zI_add, zI_sub, zI_mul, zI_neg, zI_lt, zI_le, zI_eq, zI_rem, zI_oob, zI_ixN, zI_ix, zI_ite, zI10, zI01, Int.toNat_natCast, cond_false, cond_true, q01_0, q01_1, q01_0z, q01_1z, qB_if, qB_ifz, qB_ret, qB_retz, qbI_some, qbV_some, qbL_some, qbR_some, qbN_some, qbN_none, true_or, or_true, false_or, or_false, if_true, if_false, Int.reduceEq, Int.reduceLT, Int.reduceLE, Int.reduceNeg, qb_Affair_used_42]
      rw [if_pos (by omega), show c = aN s by omega]
    | succ k ih =>
      intro c hc
      have hcn : c < aN s := by omega
      have b4 := (ok.c hcn).2.2.2.2
      have := mk_lt (fun c => decide (aC s c 4 = 1)) c
      have := p31 this (by omega)
      rw [qb_Affair_used_4, h.cnt]
      simp (disch := omega) only [zI_of, zI_0, zI_1, zI_add, zI_sub, zI_mul, zI_neg, zI_lt, zI_le, zI_eq, zI_rem, zI_oob, zI_ixN, zI_ix, zI_ite, zI10, zI01, Int.toNat_natCast, cond_false, cond_true, q01_0, q01_1, q01_0z, q01_1z, qB_if, qB_ifz, qB_ret, qB_retz, qbI_some, qbV_some, qbL_some, qbR_some, qbN_some, qbN_none, true_or, or_true, false_or, or_false, if_true, if_false, Int.reduceEq, Int.reduceLT, Int.reduceLE, Int.reduceNeg, qb_Affair_used_36, h.c 4 hcn, qbz_z b4, zI_31, zI_bit, zI_or, mk_or]
      rw [if_neg (by omega), if_neg (by omega)]
      have i1 := ih (c + 1) (by omega)
      by_cases h1 : aC s c 4 = 1
      · rw [mk_t (by simp [h1])] at i1
        rw [if_neg (by omega)]
        exact i1
      · rw [mk_f (by simp [h1])] at i1
        rw [if_pos (by omega)]
        exact i1
  rw [qe_Affair_used (h0 := qd2 hj), qb_Affair_used_0]
  exact L (aN s) 0 (by omega)
/-- the causes not used -/
def aX (s : AS) (c : Nat) : Bool := decide (aC s c 4 = 0)
theorem zI_pm1 {n : Nat} : zI ((2 ^ n : Nat) : Int) - zI 1 = zI ((2 ^ n - 1 : Nat) : Int) := by
  rw [zI_sub]
  have : 0 < 2 ^ n := Nat.two_pow_pos n
  congr 1
  omega
theorem zI_pm1c {n : Nat} : zI (((2 ^ n : Nat) : Int) - 1) = zI ((2 ^ n - 1 : Nat) : Int) := by
  rw [← zI_pm1, zI_sub]
theorem zI_xorm (b : Nat) : zI (b : Int) ^^^ zI (-1) = zI ((b ^^^ 4294967295 : Nat) : Int) := by
  rw [show zI (-1) = nI 4294967295 by decide +kernel, zI_nI, zI_nI]
  exact Int32.toBitVec_inj.mp (by simp [nI, BitVec.ofNat_xor]; exact BitVec.xor_allOnes.symm)
/-- a without b -/
def nd (a b : Nat) : Nat := a &&& (b ^^^ 4294967295)
theorem zI_nd (a b : Nat) : zI (a : Int) &&& (zI (b : Int) ^^^ zI (-1)) = zI (nd a b : Nat) := by
  rw [zI_xorm, zI_and]
  rfl
theorem nd_bit (a b i : Nat) : (nd a b).testBit i = (a.testBit i && (b.testBit i ^^ decide (i < 32))) := by
  unfold nd
  rw [Nat.testBit_and, Nat.testBit_xor, show 4294967295 = 2 ^ 32 - 1 from rfl, Nat.testBit_two_pow_sub_one]
theorem mk_nd (p q : Nat → Bool) {n : Nat} (hn : n ≤ 30) : nd (mk p n) (mk q n) = mk (fun c => p c && !q c) n := by
  apply Nat.eq_of_testBit_eq
  intro i
  rw [nd_bit, mk_bit, mk_bit, mk_bit]
  by_cases h : i < n
  · have : i < 32 := by omega
    simp [h, this]
  · simp [h]
theorem mk_all (n : Nat) : 2 ^ n - 1 = mk (fun _ => true) n := by
  apply Nat.eq_of_testBit_eq
  intro i
  rw [mk_bit, Nat.testBit_two_pow_sub_one, Bool.and_true]
theorem mk_congr {p q : Nat → Bool} : ∀ n, (∀ i, i < n → p i = q i) → mk p n = mk q n
  | 0, _ => rfl
  | n + 1, h => by
    unfold mk
    rw [mk_congr n (fun i hi => h i (by omega)), h n (by omega)]
theorem c_Affair_unused (d : Nat) {j : Nat} {s : AS} {μ : QM} (hj : j < 11) (h : RA μ j s) (ok : aOK s) : qcall qprogs (d + 2) 14 [qR (2, j, 0)] μ = some (some (qI (zI (mk (aX s) (aN s) : Nat))), μ) := by
  have h12 := ok.2.1
  rw [qe_Affair_unused (h0 := qd2 hj), qb_Affair_unused_0, c_Affair_used d hj h ok, h.cnt]
  simp (disch := omega) only [zI_of, zI_0, zI_1, zI_add, zI_sub, zI_mul, zI_neg, zI_lt, zI_le, zI_eq, zI_rem, zI_oob, zI_ixN, zI_ix, zI_ite, zI10, zI01, Int.toNat_natCast, cond_false, cond_true, q01_0, q01_1, q01_0z, q01_1z, qB_if, qB_ifz, qB_ret, qB_retz, qbI_some, qbV_some, qbL_some, qbR_some, qbN_some, qbN_none, true_or, or_true, false_or, or_false, if_true, if_false, Int.reduceEq, Int.reduceLT, Int.reduceLE, Int.reduceNeg, zI_31, zI_bit]
  rw [zI_pm1c, zI_nd, mk_all, mk_nd _ _ (by omega)]
  refine congrArg (fun z : Nat => (some (some (qI (zI z)), μ) : QR)) (mk_congr _ fun i hi => ?_)
  have := (ok.c hi).2.2.2.2
  unfold aX
  rcases (by omega : aC s i 4 = 0 ∨ aC s i 4 = 1) with e | e <;> simp [e]
theorem c_Affair_unusedFor (d : Nat) {j w : Nat} {s : AS} {μ : QM} (hj : j < 11) (h : RA μ j s) (ok : aOK s) (hw : w < 2) : qcall qprogs (d + 1) 15 [qR (2, j, 0), qI (zI w)] μ = some (some (qI (zI (mk (fun c => aX s c && decide (aC s c 2 = w)) (aN s) : Nat))), μ) := by
  have h12 := ok.2.1
  have L : ∀ k c, c + k = aN s → qx d qc_Affair_unusedFor 4 [some (qR (2, j, 0)), some (qI (zI w)), some (qI (zI (mk (fun c => aX s c && decide (aC s c 2 = w)) c : Nat))), some (qI (zI c))] [] μ = some (some (qI (zI (mk (fun c => aX s c && decide (aC s c 2 = w)) (aN s) : Nat))), μ) := by
    intro k
    induction k with
    | zero =>
      intro c hc
      rw [qb_Affair_unusedFor_4, h.cnt]
      simp (disch := omega) only [zI_of, zI_0, zI_1, zI_add, zI_sub, zI_mul, zI_neg, zI_lt, zI_le, zI_eq, zI_rem, zI_oob, zI_ixN, zI_ix, zI_ite, zI10, zI01, Int.toNat_natCast, cond_false, cond_true, q01_0, q01_1, q01_0z, q01_1z, qB_if, qB_ifz, qB_ret, qB_retz, qbI_some, qbV_some, qbL_some, qbR_some, qbN_some, qbN_none, true_or, or_true, false_or, or_false, if_true, if_false, Int.reduceEq, Int.reduceLT, Int.reduceLE, Int.reduceNeg, qb_Affair_unusedFor_55]
      rw [if_pos (by omega), show c = aN s by omega]
    | succ k ih =>
      intro c hc
      have hcn : c < aN s := by omega
      have b4 := (ok.c hcn).2.2.2.2
      have b2 := (ok.c hcn).2.2.1
      have := mk_lt (fun c => aX s c && decide (aC s c 2 = w)) c
      have := p31 this (by omega)
      rw [qb_Affair_unusedFor_4, h.cnt]
      simp (disch := omega) only [zI_of, zI_0, zI_1, zI_add, zI_sub, zI_mul, zI_neg, zI_lt, zI_le, zI_eq, zI_rem, zI_oob, zI_ixN, zI_ix, zI_ite, zI10, zI01, Int.toNat_natCast, cond_false, cond_true, q01_0, q01_1, q01_0z, q01_1z, qB_if, qB_ifz, qB_ret, qB_retz, qbI_some, qbV_some, qbL_some, qbR_some, qbN_some, qbN_none, true_or, or_true, false_or, or_false, if_true, if_false, Int.reduceEq, Int.reduceLT, Int.reduceLE, Int.reduceNeg, qb_Affair_unusedFor_49, h.c 4 hcn, h.c 2 hcn, qbz_z b4, zI_31, zI_bit, zI_or, mk_or]
      rw [if_neg (by omega), if_neg (by omega)]
      have i1 := ih (c + 1) (by omega)
      by_cases h1 : aC s c 4 = 0
      · rw [if_pos (by omega)]
        by_cases h2 : aC s c 2 = w
        · rw [mk_t (by simp [aX, h1, h2])] at i1
          rw [if_pos (by omega)]
          exact i1
        · rw [mk_f (by simp [aX, h1, h2])] at i1
          rw [if_neg (by omega)]
          exact i1
      · rw [mk_f (by simp [aX, h1])] at i1
        rw [if_neg (by omega)]
        exact i1
  rw [qe_Affair_unusedFor (h0 := qd2 hj), qb_Affair_unusedFor_0]
  exact L (aN s) 0 (by omega)
/-- the weight of the causes not used -/
def aWU (s : AS) : Nat → Nat
  | 0 => 0
  | n + 1 => aWU s n + (if aC s n 4 = 0 then aW s n else 0)
theorem aWU_le {s : AS} (ok : aOK s) : ∀ n, n ≤ aN s → aWU s n ≤ 29 * n
  | 0, _ => Nat.le_refl 0
  | n + 1, hn => by
    have h1 := aWU_le ok n (by omega)
    have h2 := ok.w (c := n) (by omega)
    unfold aWU
    split <;> omega
theorem c_Affair_weightUnused (d : Nat) {j : Nat} {s : AS} {μ : QM} (hj : j < 11) (h : RA μ j s) (ok : aOK s) : qcall qprogs (d + 1) 16 [qR (2, j, 0)] μ = some (some (qI (zI (aWU s (aN s) : Nat))), μ) := by
  have h12 := ok.2.1
  have L : ∀ k c, c + k = aN s → qx d qc_Affair_weightUnused 4 [some (qR (2, j, 0)), some (qI (zI (aWU s c : Nat))), some (qI (zI c))] [] μ = some (some (qI (zI (aWU s (aN s) : Nat))), μ) := by
    intro k
    induction k with
    | zero =>
      intro c hc
      rw [qb_Affair_weightUnused_4, h.cnt]
      simp (disch := omega) only [zI_of, zI_0, zI_1, zI_add, zI_sub, zI_mul, zI_neg, zI_lt, zI_le, zI_eq, zI_rem, zI_oob, zI_ixN, zI_ix, zI_ite, zI10, zI01, Int.toNat_natCast, cond_false, cond_true, q01_0, q01_1, q01_0z, q01_1z, qB_if, qB_ifz, qB_ret, qB_retz, qbI_some, qbV_some, qbL_some, qbR_some, qbN_some, qbN_none, true_or, or_true, false_or, or_false, if_true, if_false, Int.reduceEq, Int.reduceLT, Int.reduceLE, Int.reduceNeg, qb_Affair_weightUnused_48]
      rw [if_pos (by omega), show c = aN s by omega]
    | succ k ih =>
      intro c hc
      have hcn : c < aN s := by omega
      have b4 := (ok.c hcn).2.2.2.2
      rw [qb_Affair_weightUnused_4, h.cnt]
      simp (disch := omega) only [zI_of, zI_0, zI_1, zI_add, zI_sub, zI_mul, zI_neg, zI_lt, zI_le, zI_eq, zI_rem, zI_oob, zI_ixN, zI_ix, zI_ite, zI10, zI01, Int.toNat_natCast, cond_false, cond_true, q01_0, q01_1, q01_0z, q01_1z, qB_if, qB_ifz, qB_ret, qB_retz, qbI_some, qbV_some, qbL_some, qbR_some, qbN_some, qbN_none, true_or, or_true, false_or, or_false, if_true, if_false, Int.reduceEq, Int.reduceLT, Int.reduceLE, Int.reduceNeg, qb_Affair_weightUnused_42, h.c 4 hcn, h.w hcn, qbz_z b4]
      rw [if_neg (by omega), if_neg (by omega)]
      have i1 := ih (c + 1) (by omega)
      by_cases h1 : aC s c 4 = 0
      · rw [show aWU s (c + 1) = aWU s c + aW s c by simp [aWU, h1]] at i1
        rw [if_pos (by omega)]
        exact i1
      · rw [show aWU s (c + 1) = aWU s c by simp [aWU, h1]] at i1
        rw [if_neg (by omega)]
        exact i1
  rw [qe_Affair_weightUnused (h0 := qd2 hj), qb_Affair_weightUnused_0]
  exact L (aN s) 0 (by omega)
/-- a good one on a day, of the first n -/
def anyG (s : AS) (x : Nat) : Nat → Bool
  | 0 => false
  | n + 1 => anyG s x n || (aX s n && aG s n x)
theorem c_Affair_hasGoodOn (d : Nat) {j x : Nat} {s : AS} {μ : QM} (hj : j < 11) (h : RA μ j s) (ok : aOK s) (hx : x ≤ 1000) : qcall qprogs (d + 3) 18 [qR (2, j, 0), qI (zI x)] μ = some (some (qI (qB (anyG s x (aN s)))), μ) := by
  have h12 := ok.2.1
  have M : ∀ n c, c ≤ n → anyG s x c = true → anyG s x n = true := by
    intro n
    induction n with
    | zero => intro c hc ht; rw [show c = 0 by omega] at ht; exact ht
    | succ n ih =>
      intro c hc ht
      by_cases e : c = n + 1
      · rw [← e]; exact ht
      · unfold anyG; rw [ih c (by omega) ht]; rfl
  have L : ∀ k c, c + k = aN s → anyG s x c = false → qx (d + 2) qc_Affair_hasGoodOn 2 [some (qR (2, j, 0)), some (qI (zI x)), some (qI (zI c))] [] μ = some (some (qI (qB (anyG s x (aN s)))), μ) := by
    intro k
    induction k with
    | zero =>
      intro c hc hf
      rw [qb_Affair_hasGoodOn_2, h.cnt]
      simp (disch := omega) only [zI_of, zI_0, zI_1, zI_add, zI_sub, zI_mul, zI_neg, zI_lt, zI_le, zI_eq, zI_rem, zI_oob, zI_ixN, zI_ix, zI_ite, zI10, zI01, Int.toNat_natCast, cond_false, cond_true, q01_0, q01_1, q01_0z, q01_1z, qB_if, qB_ifz, qB_ret, qB_retz, qbI_some, qbV_some, qbL_some, qbR_some, qbN_some, qbN_none, true_or, or_true, false_or, or_false, if_true, if_false, Int.reduceEq, Int.reduceLT, Int.reduceLE, Int.reduceNeg, qb_Affair_hasGoodOn_50]
      rw [if_pos (by omega), show aN s = c by omega, hf]
      rfl
    | succ k ih =>
      intro c hc hf
      have hcn : c < aN s := by omega
      have b4 := (ok.c hcn).2.2.2.2
      rw [qb_Affair_hasGoodOn_2, h.cnt]
      simp (disch := omega) only [zI_of, zI_0, zI_1, zI_add, zI_sub, zI_mul, zI_neg, zI_lt, zI_le, zI_eq, zI_rem, zI_oob, zI_ixN, zI_ix, zI_ite, zI10, zI01, Int.toNat_natCast, cond_false, cond_true, q01_0, q01_1, q01_0z, q01_1z, qB_if, qB_ifz, qB_ret, qB_retz, qbI_some, qbV_some, qbL_some, qbR_some, qbN_some, qbN_none, true_or, or_true, false_or, or_false, if_true, if_false, Int.reduceEq, Int.reduceLT, Int.reduceLE, Int.reduceNeg, qb_Affair_hasGoodOn_44, h.c 4 hcn, qbz_z b4, c_Affair_isGood d hj h ok hcn hx]
      rw [if_neg (by omega), if_neg (by omega)]
      have i1 := ih (c + 1) (by omega)
      have e : anyG s x (c + 1) = (anyG s x c || (aX s c && aG s c x)) := rfl
      rw [hf, Bool.false_or] at e
      by_cases h1 : aC s c 4 = 0
      · rw [if_pos (by omega)]
        have ex : aX s c = true := by simp [aX, h1]
        rw [ex, Bool.true_and] at e
        cases hg : aG s c x
        · rw [hg] at e
          simp only [cond_false]
          exact i1 e
        · rw [hg] at e
          rw [M (aN s) (c + 1) (by omega) e]
          rfl
      · rw [if_neg (by omega)]
        exact i1 (by rw [e]; simp [aX, h1])
  rw [qe_Affair_hasGoodOn (h0 := qd2 hj), qb_Affair_hasGoodOn_0]
  exact L (aN s) 0 (by omega) rfl
theorem c_Affair_isUsable (d : Nat) {j c : Nat} {s : AS} {μ : QM} (hj : j < 11) (h : RA μ j s) (ok : aOK s) (hc : c < aN s) : qcall qprogs (d + 3) 19 [qR (2, j, 0), qR (1, j, c)] μ = some (some (qI (qB (aX s c && (decide (aP s (aC s c 2) 4 = 0) && aG s c (aD s))))), μ) := by
  have h12 := ok.2.1
  have b4 := (ok.c hc).2.2.2.2
  have b2 := (ok.c hc).2.2.1
  have b5 := (ok.p (w := aC s c 2) (by omega)).2.2.2.2
  have b6 := ok.1
  rw [qe_Affair_isUsable (h0 := qd2 hj) (h1 := qd1 hj (by omega)), qb_Affair_isUsable_0]
  rw [h.c 4 hc, h.c 2 hc, c_Affair_person (d + 1) hj (by omega), qbR_some (qd3 hj (by omega)), h.p 4 (by omega), h.day, c_Affair_isGood d hj h ok hc (by omega)]
  simp (disch := omega) only [zI_of, zI_0, zI_1, zI_add, zI_sub, zI_mul, zI_neg, zI_lt, zI_le, zI_eq, zI_rem, zI_oob, zI_ixN, zI_ix, zI_ite, zI10, zI01, Int.toNat_natCast, cond_false, cond_true, q01_0, q01_1, q01_0z, q01_1z, qB_if, qB_ifz, qB_ret, qB_retz, qbI_some, qbV_some, qbL_some, qbR_some, qbN_some, qbN_none, true_or, or_true, false_or, or_false, if_true, if_false, Int.reduceEq, Int.reduceLT, Int.reduceLE, Int.reduceNeg, qb_Affair_isUsable_37, qb_Affair_isUsable_38, qbz_z b4, qbz_z b5]
  by_cases h1 : aC s c 4 = 0
  · rw [if_pos (by omega)]
    by_cases h2 : aP s (aC s c 2) 4 = 0
    · rw [if_pos (by omega)]
      cases aG s c (aD s) <;> simp [aX, h1, h2, qB]
    · rw [if_neg (by omega)]
      simp [aX, h1, h2, qB]
  · rw [if_neg (by omega)]
    simp [aX, h1, qB]
theorem c_J_otherThan (d : Nat) {w : Nat} {μ : QM} (hw : w < 2) : qcall qprogs (d + 1) 114 [qI (zI w)] μ = some (some (qI (zI (1 - w : Nat))), μ) := by
  rw [qe_J_otherThan, qb_J_otherThan_0]
  rcases (by omega : w = 0 ∨ w = 1) with rfl | rfl
  · rw [if_pos (by decide)]
    simp only [qb_J_otherThan_8, qb_J_otherThan_9]
    rfl
  · rw [if_neg (by decide)]
    simp only [qb_J_otherThan_8, qb_J_otherThan_9]
    rfl
theorem c_J_paidOf (d : Nat) {a b c : Nat} {μ : QM} (ha : a ≤ 999) (hb : b ≤ 999) (hc : c ≤ 999) : qcall qprogs (d + 1) 151 [qI (zI a), qI (zI b), qI (zI c)] μ = some (some (qI (zI (min a (min b (999 - c)) : Nat))), μ) := by
  rw [qe_J_paidOf, qb_J_paidOf_0]
  simp (disch := omega) only [zI_of, zI_0, zI_1, zI_add, zI_sub, zI_mul, zI_neg, zI_lt, zI_le, zI_eq, zI_rem, zI_oob, zI_ixN, zI_ix, zI_ite, zI10, zI01, Int.toNat_natCast, cond_false, cond_true, q01_0, q01_1, q01_0z, q01_1z, qB_if, qB_ifz, qB_ret, qB_retz, qbI_some, qbV_some, qbL_some, qbR_some, qbN_some, qbN_none, true_or, or_true, false_or, or_false, if_true, if_false, Int.reduceEq, Int.reduceLT, Int.reduceLE, Int.reduceNeg]
  refine q_ret ?_
  omega
theorem c_Affair_spend (d : Nat) {j c : Nat} {s : AS} {μ : QM} (hj : j < 11) (h : RA μ j s) (ok : aOK s) (hc : c < aN s) :
    ∃ μ', qcall qprogs (d + 2) 20 [qR (2, j, 0), qR (1, j, c)] μ = some (some (qI (zI (paidS s c : Nat))), μ') ∧ Fr (isA j) μ μ' ∧ RA μ' j (useC s c) := by
  have h12 := ok.2.1
  have b2 := (ok.c hc).2.2.1
  have b1 := (ok.p (w := aC s c 2) (by omega)).2.1
  have b1' := (ok.p (w := 1 - aC s c 2) (by omega)).2.1
  have b7 := ok.w hc
  have b8 := ok.owed (w := 1 - aC s c 2) (by omega)
  rw [qe_Affair_spend (h0 := qd2 hj) (h1 := qd1 hj (by omega)), qb_Affair_spend_0, h.c 2 hc, c_Affair_person d hj (by omega), qbR_some (qd3 hj (by omega)), h.c 2 hc, c_J_otherThan d (by omega), qbI_some, c_Affair_person d hj (by omega), qbR_some (qd3 hj (by omega)), h.w hc, h.p 1 (by omega), h.p 1 (by omega), c_J_paidOf d (by omega) (by omega) (by omega), qbI_some]
  have hp : (min (aW s c) (min (aP s (1 - aC s c 2) 1) (999 - aP s (aC s c 2) 1)) : Nat) = paidS s c := rfl
  rw [hp]
  have hpa : paidS s c ≤ aW s c := by unfold paidS; omega
  have hpb : paidS s c ≤ aP s (1 - aC s c 2) 1 := by unfold paidS; omega
  have hpc : paidS s c ≤ 999 - aP s (aC s c 2) 1 := by unfold paidS; omega
  have hne : ¬ 1 - aC s c 2 = aC s c 2 := by omega
  have hne' : ¬ aC s c 2 = 1 - aC s c 2 := by omega
  have v1 : zI (aP s (1 - aC s c 2) 1 : Nat) - zI (paidS s c : Nat) = zI (aP s (1 - aC s c 2) 1 - paidS s c : Nat) := by rw [zI_sub]; exact zI_congr (by omega)
  have v2 : zI (aP s (1 - aC s c 2) 3 : Nat) + (zI (aW s c : Nat) - zI (paidS s c : Nat)) = zI (aP s (1 - aC s c 2) 3 + (aW s c - paidS s c) : Nat) := by rw [zI_sub, zI_add]; exact zI_congr (by omega)
  have v3 : zI (aP s (aC s c 2) 1 : Nat) + zI (paidS s c : Nat) = zI (aP s (aC s c 2) 1 + paidS s c : Nat) := by rw [zI_add]; exact zI_congr (by omega)
  simp only [qsi_get, Prod.mk.injEq, true_and, hne, hne', and_false, and_true, false_and, if_false, h.p 3 (show 1 - aC s c 2 < 2 by omega), h.p 1 (show 1 - aC s c 2 < 2 by omega), h.p 1 (show aC s c 2 < 2 by omega), show ¬ (3 = 1) by decide, v1, v2, v3, zI_of, q01_1]
  refine ⟨_, rfl, ?_, ?_⟩
  · iterate 5 refine Fr.si' ?_ (by first | exact ⟨Or.inr (Or.inr rfl), rfl⟩ | exact ⟨Or.inl rfl, rfl⟩)
    exact Fr.rf
  · exact ((((h.sP).sP).sP).sP (v := 1)).sC (k := 4) (v := 1) (by decide) (by decide)
theorem aD_setP (s : AS) (w k v : Nat) : aD (setP s w k v) = aD s := rfl
theorem aN_setP (s : AS) (w k v : Nat) : aN (setP s w k v) = aN s := rfl
theorem aC_setP (s : AS) (w k v : Nat) : aC (setP s w k v) = aC s := rfl
theorem aP_setP (s : AS) (w k v w' k' : Nat) : aP (setP s w k v) w' k' = if w' = w ∧ k' = k then v else aP s w' k' := rfl
theorem aD_setC (s : AS) (w k v : Nat) : aD (setC s w k v) = aD s := rfl
theorem aN_setC (s : AS) (w k v : Nat) : aN (setC s w k v) = aN s := rfl
theorem aP_setC (s : AS) (w k v : Nat) : aP (setC s w k v) = aP s := rfl
theorem aC_setC (s : AS) (c k v c' k' : Nat) : aC (setC s c k v) c' k' = if c' = c ∧ k' = k then v else aC s c' k' := rfl
theorem aD_setD (s : AS) (v : Nat) : aD (setD s v) = v := rfl
theorem aN_setD (s : AS) (v : Nat) : aN (setD s v) = aN s := rfl
theorem aP_setD (s : AS) (v : Nat) : aP (setD s v) = aP s := rfl
theorem aC_setD (s : AS) (v : Nat) : aC (setD s v) = aC s := rfl
theorem aD_endP (s : AS) (w : Nat) : aD (endP s w) = aD s := by unfold endP; split <;> rfl
theorem aN_endP (s : AS) (w : Nat) : aN (endP s w) = aN s := by unfold endP; split <;> rfl
theorem aC_endP (s : AS) (w : Nat) : aC (endP s w) = aC s := by unfold endP; split <;> rfl
theorem aU_congr {s s' : AS} : ∀ n, (∀ c, c < n → aC s c 4 = aC s' c 4) → aU s n = aU s' n
  | 0, _ => rfl
  | n + 1, h => by
    show aU s n + aC s n 4 = aU s' n + aC s' n 4
    rw [aU_congr n (fun c hc => h c (by omega)), h n (by omega)]
/-- the state with a day more still to come: borrowed may be one ahead -/
theorem endP_p (s : AS) (w w' k : Nat) : aP (endP s w) w' k = if w' = w then (if k = 4 then 0 else if due s w = true then (if k = 1 then aP s w 1 - min 3 (aP s w 1) else if k = 2 then aP s w 2 + 1 else aP s w k) else aP s w k) else aP s w' k := by
  unfold endP
  cases hd : due s w
  · simp only [Bool.false_eq_true, if_false, aP_setP]
    by_cases h1 : w' = w
    · subst h1
      by_cases h4 : k = 4 <;> simp [h4]
    · simp [h1]
  · simp only [if_true, aP_setP]
    by_cases h1 : w' = w
    · subst h1
      by_cases h4 : k = 4
      · simp [h4]
      · by_cases h2 : k = 2
        · simp [h2]
        · by_cases h3 : k = 1 <;> simp [h3, h2, h4]
    · simp [h1]
theorem due_endP (s : AS) : due (endP s 0) 1 = due s 1 := by
  unfold due
  rw [aD_endP, endP_p, endP_p]
  simp
theorem endD_p (s : AS) (w k : Nat) (hw : w < 2) : aP (endD s) w k = if k = 4 then 0 else if due s w = true then (if k = 1 then aP s w 1 - min 3 (aP s w 1) else if k = 2 then aP s w 2 + 1 else aP s w k) else aP s w k := by
  unfold endD
  rw [aP_setD, endP_p, due_endP]
  rcases (by omega : w = 0 ∨ w = 1) with rfl | rfl
  · rw [if_neg (by decide), endP_p, if_pos rfl]
  · rw [if_pos rfl]
    simp only [endP_p, show ¬ (1 = 0) by decide, if_false]
theorem aD_endD (s : AS) : aD (endD s) = aD s + 1 := rfl
theorem aN_endD (s : AS) : aN (endD s) = aN s := by
  unfold endD
  rw [aN_setD, aN_endP, aN_endP]
theorem aC_endD (s : AS) : aC (endD s) = aC s := by
  unfold endD
  rw [aC_setD, aC_endP, aC_endP]
theorem aOK_endD {s : AS} (ok : aOK s) (h : aD s < 83) : aOK (endD s) := by
  have key : ∀ w, w < 2 → okP (endD s) w := by
    intro w hw
    obtain ⟨h0, h1, h2, h3, h4⟩ := ok.p hw
    have hu : aU (endD s) (aN (endD s)) = aU s (aN s) := by
      rw [aN_endD]
      exact aU_congr _ (fun c _ => by rw [aC_endD])
    unfold okP
    rw [hu, aD_endD, endD_p s w 0 hw, endD_p s w 1 hw, endD_p s w 2 hw, endD_p s w 3 hw, endD_p s w 4 hw]
    cases due s w
    · simp; omega
    · simp; omega
  refine ⟨by rw [aD_endD]; omega, by rw [aN_endD]; exact ok.2.1, key 0 (by decide), key 1 (by decide), fun c hc => ?_⟩
  rw [aN_endD] at hc
  have := ok.c hc
  unfold okC at this ⊢
  rw [aC_endD]
  exact this
theorem aOK_use {s : AS} (ok : aOK s) {c : Nat} (hc : c < aN s) (hu : aC s c 4 = 0) : aOK (useC s c) := by
  have b2 := (ok.c hc).2.2.1
  have b7 := ok.w hc
  have hpa : paidS s c ≤ aW s c := by unfold paidS; omega
  have hpb : paidS s c ≤ aP s (1 - aC s c 2) 1 := by unfold paidS; omega
  have hpc : paidS s c ≤ 999 - aP s (aC s c 2) 1 := by unfold paidS; omega
  have hU : aU (useC s c) (aN s) = aU s (aN s) + 1 := by
    have : ∀ n, aU (useC s c) n = aU s n + (if c < n then 1 else 0) := by
      intro n
      induction n with
      | zero => rfl
      | succ n ih =>
        show aU (useC s c) n + aC (useC s c) n 4 = aU s n + aC s n 4 + _
        have e : aC (useC s c) n 4 = if n = c then 1 else aC s n 4 := by
          unfold useC
          rw [aC_setC]
          simp [aC_setP]
        rw [ih, e]
        by_cases h1 : n = c
        · subst h1
          simp [hu]
        · by_cases h2 : c < n
          · rw [if_pos h2, if_neg h1, if_pos (by omega)]; omega
          · rw [if_neg h2, if_neg h1, if_neg (by omega)]; omega
    rw [this, if_pos hc]
  have key : ∀ w, w < 2 → okP (useC s c) w := by
    intro w hw
    obtain ⟨h0, h1, h2, h3, h4⟩ := ok.p hw
    unfold okP
    rw [show aN (useC s c) = aN s from rfl, hU, show aD (useC s c) = aD s from rfl]
    unfold useC
    simp only [aP_setC, aP_setP]
    have hne : ¬ 1 - aC s c 2 = aC s c 2 := by omega
    by_cases e : w = aC s c 2
    · subst e
      have e4 : ¬ aC s c 2 = 1 - aC s c 2 := by omega
      simp [e4]
      omega
    · have e2 : w = 1 - aC s c 2 := by omega
      have e3 : ¬ 1 - aC s c 2 = aC s c 2 := hne
      subst e2
      simp [e3]
      omega
  refine ⟨ok.1, ok.2.1, key 0 (by decide), key 1 (by decide), fun c' hc' => ?_⟩
  have := ok.c (c := c') hc'
  unfold okC at this ⊢
  unfold useC
  simp only [aC_setC, aC_setP]
  by_cases e : c' = c
  · simp [e]
    subst e
    omega
  · simp [e]
    omega
theorem c_Affair_endDay (d : Nat) {j : Nat} {s : AS} {μ : QM} (hj : j < 11) (h : RA μ j s) (ok : aOK s) :
    ∃ μ', qcall qprogs (d + 3) 21 [qR (2, j, 0)] μ = some (none, μ') ∧ Fr (isA j) μ μ' ∧ RA μ' j (endD s) := by
  obtain ⟨μ1, c1, f1, r1⟩ := c_Person_endDay d hj h ok (w := 0) (by decide)
  have ok1 : okE (endP s 0) := by
    refine ⟨by rw [aD_endP]; exact ok.1, fun w hw => ?_⟩
    rw [endP_p, endP_p, endP_p]
    obtain ⟨h0, h1, h2, h3, h4⟩ := ok.p hw
    rcases (by omega : w = 0 ∨ w = 1) with rfl | rfl
    · simp; split <;> omega
    · simp; omega
  obtain ⟨μ2, c2, f2, r2⟩ := c_Person_endDayE d hj r1 ok1 (w := 1) (by decide)
  rw [qe_Affair_endDay (h0 := qd2 hj), qb_Affair_endDay_0, h.day, c1, qbV_some, r1.day, c2, qbV_some, r2.day, aD_endP, aD_endP, zI_of, zI_add]
  refine ⟨_, rfl, (f1.tr f2).si' ⟨Or.inr (Or.inl rfl), rfl⟩, ?_⟩
  have := r2.sD (v := aD s + 1)
  exact this
