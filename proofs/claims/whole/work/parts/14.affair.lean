/-! the class's affairs -/
theorem RA.sP {μ : QM} {j w k v : Nat} {s : AS} (h : RA μ j s) : RA (qsi μ (3, j, w) k (zI v)) j (setP s w k v) := by
  obtain ⟨h1, h2, h3, h4, h5⟩ := h
  have e1 : (qsi μ (3, j, w) k (zI v)).1 (2, j, 0) = μ.1 (2, j, 0) := qsi_ne (by simp)
  have e2 : ∀ c, (qsi μ (3, j, w) k (zI v)).1 (1, j, c) = μ.1 (1, j, c) := fun c => qsi_ne (by simp)
  refine ⟨by rw [e1]; exact h1, by rw [e1]; exact h2, fun w' k' hw hk => ?_, fun c k' hc hk => by rw [e2]; exact h4 c k' hc hk, fun c hc => by rw [e2]; exact h5 c hc⟩
  have := h3 w' k' hw hk
  show (if (3, j, w') = (3, j, w) ∧ k' = k then zI v else μ.1 (3, j, w') k') = zI ((if w' = w ∧ k' = k then v else aP s w' k' : Nat) : Int)
  by_cases e : w' = w ∧ k' = k
  · rw [if_pos e, if_pos (by simp [e])]
  · rw [if_neg e, if_neg (by simpa using e)]; exact this
theorem RA.sD {μ : QM} {j v : Nat} {s : AS} (h : RA μ j s) : RA (qsi μ (2, j, 0) 0 (zI v)) j (setD s v) := by
  obtain ⟨h1, h2, h3, h4, h5⟩ := h
  have e1 : ∀ w, (qsi μ (2, j, 0) 0 (zI v)).1 (3, j, w) = μ.1 (3, j, w) := fun w => qsi_ne (by simp)
  have e2 : ∀ c, (qsi μ (2, j, 0) 0 (zI v)).1 (1, j, c) = μ.1 (1, j, c) := fun c => qsi_ne (by simp)
  exact ⟨qsi_self _ _ _ _, (if_neg (by simp)).trans h2, fun w' k' hw hk => by rw [e1]; exact h3 w' k' hw hk, fun c k' hc hk => by rw [e2]; exact h4 c k' hc hk, fun c hc => by rw [e2]; exact h5 c hc⟩
theorem RA.sC {μ : QM} {j c k v : Nat} {s : AS} (h : RA μ j s) (hk2 : 2 ≤ k) (hk5 : k < 5) : RA (qsi μ (1, j, c) k (zI v)) j (setC s c k v) := by
  obtain ⟨h1, h2, h3, h4, h5⟩ := h
  have e1 : (qsi μ (1, j, c) k (zI v)).1 (2, j, 0) = μ.1 (2, j, 0) := qsi_ne (by simp)
  have e2 : ∀ w, (qsi μ (1, j, c) k (zI v)).1 (3, j, w) = μ.1 (3, j, w) := fun w => qsi_ne (by simp)
  refine ⟨by rw [e1]; exact h1, by rw [e1]; exact h2, fun w' k' hw hk => by rw [e2]; exact h3 w' k' hw hk, fun c' k' hc hk => ?_, fun c' hc => ?_⟩
  · have := h4 c' k' hc hk
    show (if (1, j, c') = (1, j, c) ∧ k' = k then zI v else μ.1 (1, j, c') k') = zI ((if c' = c ∧ k' = k then v else aC s c' k' : Nat) : Int)
    by_cases e : c' = c ∧ k' = k
    · rw [if_pos e, if_pos (by simp [e])]
    · rw [if_neg e, if_neg (by simpa using e)]; exact this
  · have := h5 c' hc
    have e3 : aC (setC s c k v) c' 0 = aC s c' 0 := if_neg (by omega)
    have e4 : aC (setC s c k v) c' 1 = aC s c' 1 := if_neg (by omega)
    unfold aK aW at this ⊢
    rw [e3, e4, ← this.1, ← this.2]
    exact ⟨if_neg (by omega), if_neg (by omega)⟩
theorem RA.eq {μ : QM} {j : Nat} {s s' : AS} (h : RA μ j s) (e : s = s') : RA μ j s' := e ▸ h
theorem c_Person_endDay (d : Nat) {j w : Nat} {s : AS} {μ : QM} (hj : j < 11) (h : RA μ j s) (ok : aOK s) (hw : w < 2) :
    ∃ μ', qcall qprogs (d + 2) 8 [qR (3, j, w), qI (zI (aD s))] μ = some (none, μ') ∧ Fr (isA j) μ μ' ∧ RA μ' j (endP s w) := by
  have b1 := (ok.p hw).2.1
  have b2 := (ok.p hw).2.2.1
  have b3 := ok.1
  rw [qe_Person_endDay (h0 := qd3 hj hw), qb_Person_endDay_0, c_Person_isDueOn d hj h ok hw, qbI_some]
  simp only [qB_if, qb_Person_endDay_35, zI_of, q01_0]
  unfold endP
  cases hdue : due s w
  · simp only [cond_false]
    exact ⟨_, rfl, Fr.si ⟨Or.inr (Or.inr rfl), rfl⟩, h.sP (v := 0)⟩
  · simp only [cond_true, if_true]
    refine ⟨_, rfl, ?_, ?_⟩
    · refine Fr.si' (Fr.si' (Fr.si' Fr.rf ?_) ?_) ?_ <;> exact ⟨Or.inr (Or.inr rfl), rfl⟩
    · have e1 := h.2.2.1 w 1 hw (by decide)
      have e2 := h.2.2.1 w 2 hw (by decide)
      have v1 : μ.1 (3, j, w) 1 - (if μ.1 (3, j, w) 1 < zI 3 then μ.1 (3, j, w) 1 else zI 3) = zI (aP s w 1 - min 3 (aP s w 1) : Nat) := by
        rw [e1]
        simp (disch := omega) only [zI_of, zI_0, zI_1, zI_add, zI_sub, zI_mul, zI_neg, zI_lt, zI_le, zI_eq, zI_rem, zI_oob, zI_ixN, zI_ix, zI_ite, zI10, zI01, Int.toNat_natCast, cond_false, cond_true, q01_0, q01_1, q01_0z, q01_1z, qB_if, qB_ifz, qB_ret, qB_retz, qbI_some, qbV_some, qbL_some, qbR_some, qbN_some, qbN_none, true_or, or_true, false_or, or_false, if_true, if_false, Int.reduceEq, Int.reduceLT, Int.reduceLE, Int.reduceNeg]
        omega
      have v2 : (qsi μ (3, j, w) 1 (zI (aP s w 1 - min 3 (aP s w 1) : Nat))).1 (3, j, w) 2 + zI 1 = zI (aP s w 2 + 1 : Nat) := by
        rw [show (qsi μ (3, j, w) 1 (zI (aP s w 1 - min 3 (aP s w 1) : Nat))).1 (3, j, w) 2 = μ.1 (3, j, w) 2 from if_neg (by simp), e2, zI_add]
        rfl
      rw [v1, v2]
      exact (h.sP.sP).sP (v := 0)
theorem c_Affair_person (d : Nat) {j w : Nat} {μ : QM} (hj : j < 11) (hw : w < 2) : qcall qprogs (d + 1) 10 [qR (2, j, 0), qI (zI w)] μ = some (some (qR (3, j, w)), μ) := by
  rw [qe_Affair_person (h0 := qd2 hj), qb_Affair_person_0]
  rcases (by omega : w = 0 ∨ w = 1) with rfl | rfl
  · rw [if_pos (by decide)]
    simp only [qb_Affair_person_11, qb_Affair_person_15]
  · rw [if_neg (by decide)]
    simp only [qb_Affair_person_11, qb_Affair_person_15]
theorem c_Affair_causeAt (d : Nat) {j c : Nat} {s : AS} {μ : QM} (hj : j < 11) (h : RA μ j s) (ok : aOK s) (hc : c < aN s) : qcall qprogs (d + 1) 11 [qR (2, j, 0), qI (zI c)] μ = some (some (qR (1, j, c)), μ) := by
  have h12 := ok.2.1
  rw [qe_Affair_causeAt (h0 := qd2 hj), qb_Affair_causeAt_0, h.2.1]
  simp (disch := omega) only [zI_of, zI_0, zI_1, zI_add, zI_sub, zI_mul, zI_neg, zI_lt, zI_le, zI_eq, zI_rem, zI_oob, zI_ixN, zI_ix, zI_ite, zI10, zI01, Int.toNat_natCast, cond_false, cond_true, q01_0, q01_1, q01_0z, q01_1z, qB_if, qB_ifz, qB_ret, qB_retz, qbI_some, qbV_some, qbL_some, qbR_some, qbN_some, qbN_none, true_or, or_true, false_or, or_false, if_true, if_false, Int.reduceEq, Int.reduceLT, Int.reduceLE, Int.reduceNeg, qb_Affair_causeAt_27, qb_Affair_causeAt_28, qb_Affair_causeAt_28b, if_neg (show ¬ (c : Int) < 0 by omega), if_neg (show ¬ (aN s : Int) ≤ c by omega), if_neg (show ¬ (12 : Int) ≤ c by omega)]
/-- no such cause -/
theorem c_Affair_causeAtN (d : Nat) {j : Nat} {x : Int32} {s : AS} {μ : QM} (hj : j < 11) (h : RA μ j s) (ok : aOK s) (hc : x.toInt < 0 ∨ aN s ≤ x.toInt) : qcall qprogs (d + 1) 11 [qR (2, j, 0), qI x] μ = some (some (qO none), μ) := by
  have h12 := ok.2.1
  obtain ⟨z, rfl, hz⟩ : ∃ z, x = zI z ∧ x.toInt = z := ⟨x.toInt, by unfold zI; simp, rfl⟩
  have hr : -2147483648 ≤ z ∧ z < 2147483648 := by
    rw [← hz]
    exact ⟨Int32.le_toInt _, Int32.toInt_lt _⟩
  rw [hz] at hc
  rw [qe_Affair_causeAt (h0 := qd2 hj), qb_Affair_causeAt_0, h.2.1]
  simp (disch := omega) only [zI_of, zI_0, zI_1, zI_add, zI_sub, zI_mul, zI_neg, zI_lt, zI_le, zI_eq, zI_rem, zI_oob, zI_ixN, zI_ix, zI_ite, zI10, zI01, Int.toNat_natCast, cond_false, cond_true, q01_0, q01_1, q01_0z, q01_1z, qB_if, qB_ifz, qB_ret, qB_retz, qbI_some, qbV_some, qbL_some, qbR_some, qbN_some, qbN_none, true_or, or_true, false_or, or_false, if_true, if_false, Int.reduceEq, Int.reduceLT, Int.reduceLE, Int.reduceNeg, qb_Affair_causeAt_27, qb_Affair_causeAt_28, qb_Affair_causeAt_28b]
  by_cases h1 : z < 0
  · rw [if_pos h1]
  · rw [if_neg h1, if_pos (by omega)]
theorem c_Affair_isGood (d : Nat) {j c x : Nat} {s : AS} {μ : QM} (hj : j < 11) (h : RA μ j s) (ok : aOK s) (hc : c < aN s) (hx : x ≤ 1000) : qcall qprogs (d + 2) 17 [qR (2, j, 0), qR (1, j, c), qI (zI x)] μ = some (some (qI (qB (aG s c x))), μ) := by
  have h12 := ok.2.1
  have b0 := (ok.c hc).1
  have b2 := (ok.c hc).2.2.1
  have b3 := (ok.p (w := aC s c 2) (by omega)).1
  rw [qe_Affair_isGood (h0 := qd2 hj) (h1 := qd1 hj (by omega)), qb_Affair_isGood_0, h.2.2.2.1 c 0 hc (by decide), h.2.2.2.1 c 2 hc (by decide), c_Affair_person d hj (by omega), qbR_some (qd3 hj (by omega)), h.2.2.1 _ 0 (by omega) (by decide)]
  simp only [qb_Affair_isGood_26, qb_Affair_isGood_30, qb_Affair_isGood_31, qb_Affair_isGood_48, qb_Affair_isGood_49]
  rw [c_Cause_isFreshOn d hj h ok hc hx]
  unfold aG
  simp (disch := omega) only [zI_of, zI_0, zI_1, zI_add, zI_sub, zI_mul, zI_neg, zI_lt, zI_le, zI_eq, zI_rem, zI_oob, zI_ixN, zI_ix, zI_ite, zI10, zI01, Int.toNat_natCast, cond_false, cond_true, q01_0, q01_1, q01_0z, q01_1z, qB_if, qB_ifz, qB_ret, qB_retz, qbI_some, qbV_some, qbL_some, qbR_some, qbN_some, qbN_none, true_or, or_true, false_or, or_false, if_true, if_false, Int.reduceEq, Int.reduceLT, Int.reduceLE, Int.reduceNeg]
  by_cases h1 : aC s c 0 = 4
  · rw [if_pos (by omega)]
    cases aF s c x <;> simp [h1, qB, zI_1, zI_0, zI10]
  · rw [if_neg (by omega)]
    trace_state
    sorry
