/-! the reference's state, its reads and its days -/
theorem RM.day {μ : QM} {s : AS} (h : RM μ s) : μ.1 (24, 0, 0) 12 = zI (aD s) := h.1
theorem RM.cnt {μ : QM} {s : AS} (h : RM μ s) : μ.1 (24, 0, 0) 11 = zI (aN s) := h.2.1
theorem RM.p {μ : QM} {s : AS} (h : RM μ s) {w : Nat} (k : Nat) (hw : w < 2) (hk : k < 5 := by decide) : μ.1 (26 + k, 0, 0) w = zI (aP s w k) := h.2.2.1 w k hw hk
theorem RM.c {μ : QM} {s : AS} (h : RM μ s) {c : Nat} (k : Nat) (hc : c < aN s) (hk : k < 5 := by decide) : μ.1 (31 + k, 0, 0) c = zI (aC s c k) := h.2.2.2 c k hc hk
theorem RM.wd {μ : QM} {s : AS} (h : RM μ s) {w : Nat} (hw : w < 2) : μ.1 (26, 0, 0) w = zI (aP s w 0) := h.p 0 hw
theorem RM.pu {μ : QM} {s : AS} (h : RM μ s) {w : Nat} (hw : w < 2) : μ.1 (27, 0, 0) w = zI (aP s w 1) := h.p 1 hw
theorem RM.bo {μ : QM} {s : AS} (h : RM μ s) {w : Nat} (hw : w < 2) : μ.1 (28, 0, 0) w = zI (aP s w 2) := h.p 2 hw
theorem RM.ow {μ : QM} {s : AS} (h : RM μ s) {w : Nat} (hw : w < 2) : μ.1 (29, 0, 0) w = zI (aP s w 3) := h.p 3 hw
theorem RM.je {μ : QM} {s : AS} (h : RM μ s) {w : Nat} (hw : w < 2) : μ.1 (30, 0, 0) w = zI (aP s w 4) := h.p 4 hw
theorem RM.ki {μ : QM} {s : AS} (h : RM μ s) {c : Nat} (hc : c < aN s) : μ.1 (31, 0, 0) c = zI (aC s c 0) := h.c 0 hc
theorem RM.fi {μ : QM} {s : AS} (h : RM μ s) {c : Nat} (hc : c < aN s) : μ.1 (32, 0, 0) c = zI (aC s c 1) := h.c 1 hc
theorem RM.wh {μ : QM} {s : AS} (h : RM μ s) {c : Nat} (hc : c < aN s) : μ.1 (33, 0, 0) c = zI (aC s c 2) := h.c 2 hc
theorem RM.fo {μ : QM} {s : AS} (h : RM μ s) {c : Nat} (hc : c < aN s) : μ.1 (34, 0, 0) c = zI (aC s c 3) := h.c 3 hc
theorem RM.us {μ : QM} {s : AS} (h : RM μ s) {c : Nat} (hc : c < aN s) : μ.1 (35, 0, 0) c = zI (aC s c 4) := h.c 4 hc
theorem RM.congr {μ μ' : QM} {s s' : AS} (h : RM μ s) (d1 : μ'.1 (24, 0, 0) 12 = μ.1 (24, 0, 0) 12) (d2 : μ'.1 (24, 0, 0) 11 = μ.1 (24, 0, 0) 11) (d3 : ∀ k, k < 10 → μ'.1 (26 + k, 0, 0) = μ.1 (26 + k, 0, 0)) (e1 : aD s' = aD s) (e2 : aN s' = aN s) (e3 : ∀ w k, w < 2 → k < 5 → aP s' w k = aP s w k) (e4 : ∀ c k, c < aN s → k < 5 → aC s' c k = aC s c k) : RM μ' s' := by
  obtain ⟨h1, h2, h3, h4⟩ := h
  refine ⟨by rw [d1, e1]; exact h1, by rw [d2, e2]; exact h2, fun w k hw hk => by rw [d3 k (by omega), e3 w k hw hk]; exact h3 w k hw hk, fun c k hc hk => ?_⟩
  rw [e2] at hc
  rw [show 31 + k = 26 + (5 + k) by omega, d3 (5 + k) (by omega), e4 c k hc hk, show 26 + (5 + k) = 31 + k by omega]
  exact h4 c k hc hk
/-- the cells of the reference's state -/
def isS (a : QA) : Prop := a = (24, 0, 0) ∨ (26 ≤ a.1 ∧ a.1 ≤ 35)
def FrS (μ μ' : QM) : Prop := Fr isS μ μ' ∧ ∀ k, k ≠ 11 → k ≠ 12 → μ'.1 (24, 0, 0) k = μ.1 (24, 0, 0) k
theorem FrS.rf {μ : QM} : FrS μ μ := ⟨Fr.rf, fun _ _ _ => rfl⟩
theorem FrS.tr {μ μ1 μ2 : QM} (h : FrS μ μ1) (h2 : FrS μ1 μ2) : FrS μ μ2 := ⟨h.1.tr h2.1, fun k a b => (h2.2 k a b).trans (h.2 k a b)⟩
theorem FrS.row {μ : QM} {t k : Nat} {v : Int32} (ht : 26 ≤ t ∧ t ≤ 35) : FrS μ (qsi μ (t, 0, 0) k v) := ⟨Fr.si (Or.inr ht), fun j _ _ => by rw [qsi_ne (by simp; omega)]⟩
theorem FrS.fld {μ : QM} {k : Nat} {v : Int32} (hk : k = 11 ∨ k = 12) : FrS μ (qsi μ (24, 0, 0) k v) := ⟨Fr.si (Or.inl rfl), fun j a b => if_neg (by omega)⟩
theorem RM.sP {μ : QM} {w k v : Nat} {s : AS} (h : RM μ s) (hk5 : k < 5) : RM (qsi μ (26 + k, 0, 0) w (zI v)) (setP s w k v) := by
  obtain ⟨h1, h2, h3, h4⟩ := h
  have e1 : (qsi μ (26 + k, 0, 0) w (zI v)).1 (24, 0, 0) = μ.1 (24, 0, 0) := qsi_ne (by simp; omega)
  refine ⟨by rw [e1]; exact h1, by rw [e1]; exact h2, fun w' k' hw hk => ?_, fun c k' hc hk => ?_⟩
  · have := h3 w' k' hw hk
    show (if (26 + k', 0, 0) = (26 + k, 0, 0) ∧ w' = w then zI v else μ.1 (26 + k', 0, 0) w') = zI ((if w' = w ∧ k' = k then v else aP s w' k' : Nat) : Int)
    by_cases e : w' = w ∧ k' = k
    · rw [if_pos e, if_pos (by simp [e])]
    · rw [if_neg e, if_neg (by simp; omega)]; exact this
  · rw [qsi_ne (by simp; omega)]
    exact h4 c k' hc hk
theorem RM.sC {μ : QM} {c k v : Nat} {s : AS} (h : RM μ s) (hk5 : k < 5) : RM (qsi μ (31 + k, 0, 0) c (zI v)) (setC s c k v) := by
  obtain ⟨h1, h2, h3, h4⟩ := h
  have e1 : (qsi μ (31 + k, 0, 0) c (zI v)).1 (24, 0, 0) = μ.1 (24, 0, 0) := qsi_ne (by simp; omega)
  refine ⟨by rw [e1]; exact h1, by rw [e1]; exact h2, fun w' k' hw hk => ?_, fun c' k' hc hk => ?_⟩
  · rw [qsi_ne (by simp; omega)]
    exact h3 w' k' hw hk
  · have := h4 c' k' hc hk
    show (if (31 + k', 0, 0) = (31 + k, 0, 0) ∧ c' = c then zI v else μ.1 (31 + k', 0, 0) c') = zI ((if c' = c ∧ k' = k then v else aC s c' k' : Nat) : Int)
    by_cases e : c' = c ∧ k' = k
    · rw [if_pos e, if_pos (by simp [e])]
    · rw [if_neg e, if_neg (by simp; omega)]; exact this
theorem RM.sD {μ : QM} {v : Nat} {s : AS} (h : RM μ s) : RM (qsi μ (24, 0, 0) 12 (zI v)) (setD s v) := by
  obtain ⟨h1, h2, h3, h4⟩ := h
  refine ⟨qsi_self _ _ _ _, by rw [qsi_get, if_neg (by simp)]; exact h2, fun w k hw hk => ?_, fun c k hc hk => ?_⟩
  · rw [qsi_ne (by simp; omega)]; exact h3 w k hw hk
  · rw [qsi_ne (by simp; omega)]; exact h4 c k hc hk
theorem RM.sWd {μ : QM} {w v : Nat} {s : AS} (h : RM μ s) : RM (qsi μ (26, 0, 0) w (zI v)) (setP s w 0 v) := h.sP (k := 0) (by decide)
theorem RM.sPu {μ : QM} {w v : Nat} {s : AS} (h : RM μ s) : RM (qsi μ (27, 0, 0) w (zI v)) (setP s w 1 v) := h.sP (k := 1) (by decide)
theorem RM.sBo {μ : QM} {w v : Nat} {s : AS} (h : RM μ s) : RM (qsi μ (28, 0, 0) w (zI v)) (setP s w 2 v) := h.sP (k := 2) (by decide)
theorem RM.sOw {μ : QM} {w v : Nat} {s : AS} (h : RM μ s) : RM (qsi μ (29, 0, 0) w (zI v)) (setP s w 3 v) := h.sP (k := 3) (by decide)
theorem RM.sJe {μ : QM} {w v : Nat} {s : AS} (h : RM μ s) : RM (qsi μ (30, 0, 0) w (zI v)) (setP s w 4 v) := h.sP (k := 4) (by decide)
theorem RM.sWh {μ : QM} {c v : Nat} {s : AS} (h : RM μ s) : RM (qsi μ (33, 0, 0) c (zI v)) (setC s c 2 v) := h.sC (k := 2) (by decide)
theorem RM.sFo {μ : QM} {c v : Nat} {s : AS} (h : RM μ s) : RM (qsi μ (34, 0, 0) c (zI v)) (setC s c 3 v) := h.sC (k := 3) (by decide)
theorem RM.sUs {μ : QM} {c v : Nat} {s : AS} (h : RM μ s) : RM (qsi μ (35, 0, 0) c (zI v)) (setC s c 4 v) := h.sC (k := 4) (by decide)
theorem RM.st {μ : QM} {s s' : AS} (h : RM μ s) (e1 : aD s' = aD s) (e2 : aN s' = aN s) (e3 : ∀ w k, w < 2 → k < 5 → aP s' w k = aP s w k) (e4 : ∀ c k, c < aN s → k < 5 → aC s' c k = aC s c k) : RM μ s' := h.congr rfl rfl (fun _ _ => rfl) e1 e2 e3 e4
theorem c_M_isIn (d : Nat) {a b c : Int} {μ : QM} (h : -2147483648 ≤ a ∧ a < 2147483648 ∧ -2147483648 ≤ b ∧ b < 2147483648 ∧ -2147483648 ≤ c ∧ c < 2147483648) : qcall qprogs (d + 1) 155 [qI (zI a), qI (zI b), qI (zI c)] μ = some (some (qI (qB (decide (b ≤ a) && decide (a ≤ c)))), μ) := by
  rw [qe_M_isIn, qb_M_isIn_0]
  simp (disch := omega) only [zI_of, zI_0, zI_1, zI_add, zI_sub, zI_mul, zI_neg, zI_lt, zI_le, zI_eq, zI_rem, zI_oob, zI_ixN, zI_ix, zI_ite, zI10, zI01, Int.toNat_natCast, cond_false, cond_true, q01_0, q01_1, q01_0z, q01_1z, qB_if, qB_ifz, qB_ret, qB_retz, qbI_some, qbV_some, qbL_some, qbR_some, qbN_some, qbN_none, true_or, or_true, false_or, or_false, if_true, if_false, Int.reduceEq, Int.reduceLT, Int.reduceLE, Int.reduceNeg, qb_M_isIn_14, qb_M_isIn_15]
  by_cases h1 : b ≤ a
  · by_cases h2 : a ≤ c
    · rw [if_neg (by omega), if_neg (by omega)]; simp [h1, h2, qB]
    · rw [if_neg (by omega), if_pos (by omega)]; simp [h1, h2, qB]
  · rw [if_pos (by omega)]; simp [h1, qB]
theorem c_M_bound (d : Nat) {a b c : Int} {μ : QM} (h : -2147483648 ≤ a ∧ a < 2147483648 ∧ -2147483648 ≤ b ∧ b < 2147483648 ∧ -2147483648 ≤ c ∧ c < 2147483648) : qcall qprogs (d + 1) 156 [qI (zI a), qI (zI b), qI (zI c)] μ = some (some (qI (zI (if a < b then -4 else if c < a then -6 else 0))), μ) := by
  rw [qe_M_bound, qb_M_bound_0]
  simp (disch := omega) only [zI_of, zI_0, zI_1, zI_add, zI_sub, zI_mul, zI_neg, zI_lt, zI_le, zI_eq, zI_rem, zI_oob, zI_ixN, zI_ix, zI_ite, zI10, zI01, Int.toNat_natCast, cond_false, cond_true, q01_0, q01_1, q01_0z, q01_1z, qB_if, qB_ifz, qB_ret, qB_retz, qbI_some, qbV_some, qbL_some, qbR_some, qbN_some, qbN_none, true_or, or_true, false_or, or_false, if_true, if_false, Int.reduceEq, Int.reduceLT, Int.reduceLE, Int.reduceNeg, qb_M_bound_10, qb_M_bound_20, qb_M_bound_21]
  by_cases h1 : b ≤ a
  · by_cases h2 : a ≤ c
    · rw [if_pos (by omega), if_pos (by omega), if_neg (by omega), if_neg (by omega)]
    · rw [if_pos (by omega), if_neg (by omega), if_neg (by omega), if_pos (by omega)]
  · rw [if_neg (by omega), if_pos (by omega)]
theorem bit_of {T c : Nat} : ((T / 2 ^ c &&& 1 : Nat) = 1) ↔ T.testBit c = true := by
  rw [Nat.testBit_eq_decide_div_mod_eq, Nat.and_one_is_mod, decide_eq_true_iff]
theorem c_M_has (d : Nat) {T c : Nat} {μ : QM} (hT : T < 2147483648) (hc : c < 31) : qcall qprogs (d + 1) 157 [qI (zI T), qI (zI c)] μ = some (some (qI (qB (T.testBit c))), μ) := by
  rw [qe_M_has, qb_M_has_0, zI_shr ⟨by omega, hT⟩]
  rw [show Int32.ofInt 1 = zI ((1 : Nat) : Int) by rw [zI_of]; rfl, zI_and]
  have hlt : (T / 2 ^ c &&& 1 : Nat) < 2 := by rw [Nat.and_one_is_mod]; omega
  have hb := bit_of (T := T) (c := c)
  cases hq : T.testBit c
  · rw [hq] at hb
    rw [if_neg (by rw [zI_eq (by omega)]; intro e; have := hb.mp (by omega); cases this)]
    simp (disch := omega) only [zI_of, zI_0, zI_1, zI_add, zI_sub, zI_mul, zI_neg, zI_lt, zI_le, zI_eq, zI_rem, zI_oob, zI_ixN, zI_ix, zI_ite, zI10, zI01, Int.toNat_natCast, cond_false, cond_true, q01_0, q01_1, q01_0z, q01_1z, qB_if, qB_ifz, qB_ret, qB_retz, qbI_some, qbV_some, qbL_some, qbR_some, qbN_some, qbN_none, true_or, or_true, false_or, or_false, if_true, if_false, Int.reduceEq, Int.reduceLT, Int.reduceLE, Int.reduceNeg, qb_M_has_13, qb_M_has_14]
    rfl
  · rw [hq] at hb
    rw [if_pos (by rw [hb.mpr rfl])]
    simp (disch := omega) only [zI_of, zI_0, zI_1, zI_add, zI_sub, zI_mul, zI_neg, zI_lt, zI_le, zI_eq, zI_rem, zI_oob, zI_ixN, zI_ix, zI_ite, zI10, zI01, Int.toNat_natCast, cond_false, cond_true, q01_0, q01_1, q01_0z, q01_1z, qB_if, qB_ifz, qB_ret, qB_retz, qbI_some, qbV_some, qbL_some, qbR_some, qbN_some, qbN_none, true_or, or_true, false_or, or_false, if_true, if_false, Int.reduceEq, Int.reduceLT, Int.reduceLE, Int.reduceNeg, qb_M_has_13, qb_M_has_14]
    rfl
theorem c_M_keepsOf (d : Nat) {c : Nat} {s : AS} {μ : QM} (h : RM μ s) (ok : aOK s) (hc : c < aN s) : qcall qprogs (d + 1) 175 [qR (24, 0, 0), qI (zI c)] μ = some (some (qI (zI (aK s c))), μ) := by
  have h12 := ok.2.1
  have b0 := (ok.c hc).1
  have b1 := (ok.c hc).2.1
  have ix : (zI (c : Int)).toNatClampNeg = c := zI_ixN (by omega)
  rw [qe_M_keepsOf, qb_M_keepsOf_0]
  unfold aK
  rw [← lastI_ok _ (show aC s c 0 < 6 by omega) _ (show aC s c 1 < 10 by omega)]
  unfold lastI
  simp only [qix, ix, zI_oob (show 0 ≤ (c : Int) ∧ (c : Int) < ((12 : Nat) : Int) ∧ ((12 : Nat) : Int) < 2147483648 by omega), cond_false, h.ki hc, h.fi hc, qb_M_keepsOf_48, qb_M_keepsOf_52, qb_M_keepsOf_56, qb_M_keepsOf_58, qb_M_keepsOf_64, qb_M_keepsOf_71, if_neg (show ¬ Int32.ofInt 2 = 0 by decide)]
  repeat' split
  all_goals rfl
theorem c_M_weightOfE (d : Nat) {c : Nat} {s : AS} {μ : QM} (h : RM μ s) (h12 : aN s ≤ 12) (hc : c < aN s) (b0 : aC s c 0 ≤ 5) (b1 : aC s c 1 ≤ 9) : qcall qprogs (d + 1) 176 [qR (24, 0, 0), qI (zI c)] μ = some (some (qI (zI (aW s c))), μ) := by
  have ix : (zI (c : Int)).toNatClampNeg = c := zI_ixN (by omega)
  rw [qe_M_weightOf, qb_M_weightOf_0]
  unfold aW
  rw [← weightI_ok _ (show aC s c 0 < 6 by omega) _ (show aC s c 1 < 10 by omega)]
  unfold weightI
  simp only [qix, ix, zI_oob (show 0 ≤ (c : Int) ∧ (c : Int) < ((12 : Nat) : Int) ∧ ((12 : Nat) : Int) < 2147483648 by omega), cond_false, h.ki hc, h.fi hc, qb_M_weightOf_48, qb_M_weightOf_52, qb_M_weightOf_56, qb_M_weightOf_60, qb_M_weightOf_67, qb_M_weightOf_71, if_neg (show ¬ Int32.ofInt 2 = 0 by decide)]
  repeat' split
  all_goals rfl
theorem c_M_weightOf (d : Nat) {c : Nat} {s : AS} {μ : QM} (h : RM μ s) (ok : aOK s) (hc : c < aN s) : qcall qprogs (d + 1) 176 [qR (24, 0, 0), qI (zI c)] μ = some (some (qI (zI (aW s c))), μ) := c_M_weightOfE d h ok.2.1 hc (ok.c hc).1 (ok.c hc).2.1
theorem c_M_goodTill (d : Nat) {c : Nat} {s : AS} {μ : QM} (h : RM μ s) (ok : aOK s) (hc : c < aN s) : qcall qprogs (d + 2) 177 [qR (24, 0, 0), qI (zI c)] μ = some (some (qI (zI (aT s c))), μ) := by
  have h12 := ok.2.1
  rw [qe_M_goodTill, qb_M_goodTill_0]
  simp (disch := omega) only [zI_of, zI_0, zI_1, zI_add, zI_sub, zI_mul, zI_neg, zI_lt, zI_le, zI_eq, zI_rem, zI_oob, zI_ixN, zI_ix, zI_ite, zI10, zI01, Int.toNat_natCast, cond_false, cond_true, q01_0, q01_1, q01_0z, q01_1z, qB_if, qB_ifz, qB_ret, qB_retz, qbI_some, qbV_some, qbL_some, qbR_some, qbN_some, qbN_none, true_or, or_true, false_or, or_false, if_true, if_false, Int.reduceEq, Int.reduceLT, Int.reduceLE, Int.reduceNeg, c_M_keepsOf d h ok hc, h.fo hc]
  rfl
theorem c_M_isGood (d : Nat) {c x : Nat} {s : AS} {μ : QM} (h : RM μ s) (ok : aOK s) (hc : c < aN s) (hx : x ≤ 1000) : qcall qprogs (d + 3) 178 [qR (24, 0, 0), qI (zI c), qI (zI x)] μ = some (some (qI (qB (aG s c x))), μ) := by
  have h12 := ok.2.1
  have b0 := (ok.c hc).1
  have b2 := (ok.c hc).2.2.1
  have b3 := (ok.c hc).2.2.2.1
  have bT := aT_le ok hc
  have b5 := (ok.p (w := aC s c 2) (by omega)).1
  rw [qe_M_isGood, qb_M_isGood_0]
  simp (disch := omega) only [zI_of, zI_0, zI_1, zI_add, zI_sub, zI_mul, zI_neg, zI_lt, zI_le, zI_eq, zI_rem, zI_oob, zI_ixN, zI_ix, zI_ite, zI10, zI01, Int.toNat_natCast, cond_false, cond_true, q01_0, q01_1, q01_0z, q01_1z, qB_if, qB_ifz, qB_ret, qB_retz, qbI_some, qbV_some, qbL_some, qbR_some, qbN_some, qbN_none, true_or, or_true, false_or, or_false, if_true, if_false, Int.reduceEq, Int.reduceLT, Int.reduceLE, Int.reduceNeg, c_M_goodTill d h ok hc, h.fo hc, c_M_isIn (d + 1) (show -2147483648 ≤ (x : Int) ∧ (x : Int) < 2147483648 ∧ -2147483648 ≤ (aC s c 3 : Int) ∧ (aC s c 3 : Int) < 2147483648 ∧ -2147483648 ≤ (aT s c : Int) ∧ (aT s c : Int) < 2147483648 by omega), h.ki hc, h.wh hc, h.wd (show aC s c 2 < 2 by omega), qb_M_isGood_46, qb_M_isGood_50, qb_M_isGood_51]
  have hF : (decide ((aC s c 3 : Int) ≤ x) && decide ((x : Int) ≤ aT s c)) = aF s c x := by
    unfold aF
    simp only [Int.ofNat_le]
  rw [hF]
  unfold aG
  cases aF s c x
  · rfl
  · simp only [cond_true, Bool.true_and]
    by_cases h1 : aC s c 0 = 4
    · rw [if_pos (by omega)]
      simp [h1, qB]
    · rw [if_neg (by omega)]
      by_cases h2 : x % 7 = aP s (aC s c 2) 0
      · rw [if_pos (by omega)]
        simp [h1, h2, qB]
      · rw [if_neg (by omega)]
        simp [h1, h2, qB]
theorem c_M_canUse (d : Nat) {c : Nat} {s : AS} {μ : QM} (h : RM μ s) (ok : aOK s) (hc : c < aN s) : qcall qprogs (d + 4) 181 [qR (24, 0, 0), qI (zI c)] μ = some (some (qI (qB (aX s c && (decide (aP s (aC s c 2) 4 = 0) && aG s c (aD s))))), μ) := by
  have h12 := ok.2.1
  have b2 := (ok.c hc).2.2.1
  have b4 := (ok.c hc).2.2.2.2
  have b5 := (ok.p (w := aC s c 2) (by omega)).2.2.2.2
  have b6 := ok.1
  rw [qe_M_canUse, qb_M_canUse_0]
  simp (disch := omega) only [zI_of, zI_0, zI_1, zI_add, zI_sub, zI_mul, zI_neg, zI_lt, zI_le, zI_eq, zI_rem, zI_oob, zI_ixN, zI_ix, zI_ite, zI10, zI01, Int.toNat_natCast, cond_false, cond_true, q01_0, q01_1, q01_0z, q01_1z, qB_if, qB_ifz, qB_ret, qB_retz, qbI_some, qbV_some, qbL_some, qbR_some, qbN_some, qbN_none, true_or, or_true, false_or, or_false, if_true, if_false, Int.reduceEq, Int.reduceLT, Int.reduceLE, Int.reduceNeg, h.wh hc, h.je (show aC s c 2 < 2 by omega), h.us hc, h.day, c_M_isGood d h ok hc (show aD s ≤ 1000 by omega), qb_M_canUse_39, qb_M_canUse_40]
  by_cases h2 : aP s (aC s c 2) 4 = 0
  · rw [if_pos (by omega)]
    by_cases h1 : aC s c 4 = 0
    · rw [if_pos (by omega)]
      cases aG s c (aD s) <;> simp [aX, h1, h2, qB]
    · rw [if_neg (by omega)]
      simp [aX, h1, qB]
  · rw [if_neg (by omega)]
    simp [h2, qB]
theorem c_M_lesser (d : Nat) {a b : Int} {μ : QM} (h : -2147483648 ≤ a ∧ a < 2147483648 ∧ -2147483648 ≤ b ∧ b < 2147483648) : qcall qprogs (d + 1) 182 [qI (zI a), qI (zI b)] μ = some (some (qI (zI (min a b))), μ) := by
  rw [qe_M_lesser, qb_M_lesser_0]
  simp (disch := omega) only [zI_of, zI_0, zI_1, zI_add, zI_sub, zI_mul, zI_neg, zI_lt, zI_le, zI_eq, zI_rem, zI_oob, zI_ixN, zI_ix, zI_ite, zI10, zI01, Int.toNat_natCast, cond_false, cond_true, q01_0, q01_1, q01_0z, q01_1z, qB_if, qB_ifz, qB_ret, qB_retz, qbI_some, qbV_some, qbL_some, qbR_some, qbN_some, qbN_none, true_or, or_true, false_or, or_false, if_true, if_false, Int.reduceEq, Int.reduceLT, Int.reduceLE, Int.reduceNeg, qb_M_lesser_9, qb_M_lesser_10]
  by_cases h1 : b ≤ a
  · rw [if_pos h1]
    exact q_ret (by omega)
  · rw [if_neg h1]
    exact q_ret (by omega)
theorem c_M_uses (d : Nat) {c : Nat} {s : AS} {μ : QM} (h : RM μ s) (ok : aOK s) (hc : c < aN s) :
    ∃ μ', qcall qprogs (d + 2) 183 [qR (24, 0, 0), qI (zI c)] μ = some (some (qI (zI (paidS s c : Nat))), μ') ∧ FrS μ μ' ∧ RM μ' (useC s c) := by
  have h12 := ok.2.1
  have b2 := (ok.c hc).2.2.1
  have b1 := (ok.p (w := aC s c 2) (by omega)).2.1
  have b1' := (ok.p (w := 1 - aC s c 2) (by omega)).2.1
  have b7 := ok.w hc
  have b8 := ok.owed (w := 1 - aC s c 2) (by omega)
  have hW := h.wh hc
  have w1 := c_M_weightOf d h ok hc
  generalize hq : aC s c 2 = W at *
  have hne : ¬ W = 1 - W := by omega
  have hne' : ¬ 1 - W = W := by omega
  have ixc : (zI (c : Int)).toNatClampNeg = c := zI_ixN (by omega)
  have ixW : (zI (W : Int)).toNatClampNeg = W := zI_ixN (by omega)
  have ixV : (zI ((1 - W : Nat) : Int)).toNatClampNeg = 1 - W := zI_ixN (by omega)
  have o12 : qoob (zI (c : Int)) 12 = false := zI_oob (by omega)
  have oW : qoob (zI (W : Int)) 2 = false := zI_oob (by omega)
  have oV : qoob (zI ((1 - W : Nat) : Int)) 2 = false := zI_oob (by omega)
  have e1 : Int32.ofInt 1 - zI (W : Int) = zI ((1 - W : Nat) : Int) := by rw [zI_of, zI_sub]; exact zI_congr (by omega)
  have p1 := h.pu (w := 1 - W) (by omega)
  have p2 := h.pu (w := W) (by omega)
  have p3 := h.ow (w := 1 - W) (by omega)
  have l1 := c_M_lesser d (a := aP s (1 - W) 1) (b := 999 - (aP s W 1 : Int)) (μ := μ) (by omega)
  have l2 := c_M_lesser d (a := aW s c) (b := min (aP s (1 - W) 1 : Int) (999 - (aP s W 1 : Int))) (μ := μ) (by omega)
  have hp : min (aW s c : Int) (min (aP s (1 - W) 1 : Int) (999 - (aP s W 1 : Int))) = (paidS s c : Nat) := by unfold paidS; rw [hq]; omega
  have hpa : paidS s c ≤ aW s c := Nat.min_le_left _ _
  have hpb : paidS s c ≤ aP s (1 - W) 1 := by unfold paidS; rw [hq]; exact Nat.le_trans (Nat.min_le_right _ _) (Nat.min_le_left _ _)
  have v1 : zI (aP s (1 - W) 1 : Nat) - zI (paidS s c : Nat) = zI (aP s (1 - W) 1 - paidS s c : Nat) := zI_subN hpb
  have v2 : zI (aP s (1 - W) 3 : Nat) + (zI (aW s c : Nat) - zI (paidS s c : Nat)) = zI (aP s (1 - W) 3 + (aW s c - paidS s c) : Nat) := by rw [zI_subN hpa, zI_addN]
  have v3 : zI (aP s W 1 : Nat) + zI (paidS s c : Nat) = zI (aP s W 1 + paidS s c : Nat) := zI_addN _ _
  have v4 : Int32.ofInt 999 - zI (aP s W 1 : Nat) = zI (999 - (aP s W 1 : Int)) := by rw [zI_of, zI_sub]
  have rA : RM (qsi (qsi μ (27, 0, 0) (1 - W) (zI (aP s (1 - W) 1 - paidS s c : Nat))) (27, 0, 0) W (zI (aP s W 1 + paidS s c : Nat))) (setP (setP s (1 - W) 1 (aP s (1 - W) 1 - paidS s c)) W 1 (aP s W 1 + paidS s c)) := h.sPu.sPu
  have w2 := c_M_weightOfE d rA h12 hc (ok.c hc).1 (ok.c hc).2.1
  have g1 : (qsi μ (27, 0, 0) (1 - W) (zI (aP s (1 - W) 1 - paidS s c : Nat))).1 (27, 0, 0) W = zI (aP s W 1 : Nat) := by rw [qsi_get, if_neg (by simp [hne]), p2]
  have g2 : (qsi (qsi μ (27, 0, 0) (1 - W) (zI (aP s (1 - W) 1 - paidS s c : Nat))) (27, 0, 0) W (zI (aP s W 1 + paidS s c : Nat))).1 (29, 0, 0) (1 - W) = zI (aP s (1 - W) 3 : Nat) := by rw [qsi_ne (by simp), qsi_ne (by simp), p3]
  rw [qe_M_uses, qb_M_uses_0]
  simp only [qix, ixc, o12, cond_false, w1, qbI_some, hW, e1, oW, oV, ixW, ixV, p1, p2, v4, l1, l2, hp, v1, g1, v3, w2, g2, show aW (setP (setP s (1 - W) 1 (aP s (1 - W) 1 - paidS s c)) W 1 (aP s W 1 + paidS s c)) c = aW s c from rfl, v2]
  clear hp l1 l2 v1 v2 v3 v4 hpa hpb w1 w2 g1 g2 e1 p1 p2 p3
  refine ⟨_, rfl, ?_, ?_⟩
  · exact ((((FrS.row (by decide)).tr (FrS.row (by decide))).tr (FrS.row (by decide))).tr (FrS.row (by decide))).tr (FrS.row (by decide))
  · have r5 := ((rA.sOw (w := 1 - W) (v := aP s (1 - W) 3 + (aW s c - paidS s c))).sUs (c := c) (v := 1)).sJe (w := W) (v := 1)
    refine RM.st r5 (by unfold useC; simp only [aD_setC, aD_setP]) (by unfold useC; simp only [aN_setC, aN_setP]) (fun w k hw hk => ?_) (fun c' k hc' hk => ?_)
    · unfold useC
      simp only [aP_setC, aP_setP, hq]
      by_cases a1 : w = W
      · subst a1
        have : ¬ w = 1 - w := by omega
        simp [this]
      · have a2 : w = 1 - W := by omega
        subst a2
        simp [hne']
    · unfold useC
      simp only [aC_setC, aC_setP]
theorem c_M_ends (d : Nat) {s : AS} {μ : QM} (h : RM μ s) (ok : okE s) :
    ∃ μ', qcall qprogs (d + 2) 184 [qR (24, 0, 0)] μ = some (none, μ') ∧ FrS μ μ' ∧ RM μ' (endD s) := by
  have step : ∀ (w : Nat) (s : AS) (μ : QM), w < 2 → RM μ s → okE s → ∃ μ', qx (d + 1) qc_M_ends 2 [some (qR (24, 0, 0)), some (qI (zI w))] [] μ = qx (d + 1) qc_M_ends 2 [some (qR (24, 0, 0)), some (qI (zI ((w : Int) + 1)))] [] μ' ∧ FrS μ μ' ∧ RM μ' (endP s w) := by
    intro w s μ hw h ok
    have b3 := ok.1
    obtain ⟨b0, b1, b4⟩ := ok.2 w hw
    have l1 := c_M_lesser d (a := 3) (b := aP s w 1) (μ := μ) (by omega)
    have hp : (min 3 (aP s w 1 : Int)) = ((min 3 (aP s w 1) : Nat) : Int) := by omega
    have v1 : zI (aP s w 1 : Nat) - zI ((min 3 (aP s w 1) : Nat) : Int) = zI ((aP s w 1 - min 3 (aP s w 1) : Nat) : Int) := by rw [zI_sub]; exact zI_congr (by omega)
    have g1 : (qsi μ (27, 0, 0) w (zI ((aP s w 1 - min 3 (aP s w 1) : Nat) : Int))).1 (28, 0, 0) w = zI (aP s w 2 : Nat) := by rw [qsi_ne (by simp), h.bo hw]
    rw [qb_M_ends_2]
    simp (disch := omega) only [zI_of, zI_0, zI_1, zI_add, zI_sub, zI_mul, zI_neg, zI_lt, zI_le, zI_eq, zI_rem, zI_oob, zI_ixN, zI_ix, zI_ite, zI10, zI01, Int.toNat_natCast, cond_false, cond_true, q01_0, q01_1, q01_0z, q01_1z, qB_if, qB_ifz, qB_ret, qB_retz, qbI_some, qbV_some, qbL_some, qbR_some, qbN_some, qbN_none, true_or, or_true, false_or, or_false, if_true, if_false, Int.reduceEq, Int.reduceLT, Int.reduceLE, Int.reduceNeg, h.wd hw, h.day, h.je hw, h.pu hw, qb_M_ends_61]
    rw [if_neg (by omega)]
    unfold endP
    have fin : ∀ (s1 : AS) (μ1 : QM), RM μ1 s1 → FrS μ μ1 → ∃ μ', qx (d + 1) qc_M_ends 2 [some (qR (24, 0, 0)), some (qI (zI ((w : Int) + 1)))] [] (qsi μ1 (30, 0, 0) w (zI 0)) = qx (d + 1) qc_M_ends 2 [some (qR (24, 0, 0)), some (qI (zI ((w : Int) + 1)))] [] μ' ∧ FrS μ μ' ∧ RM μ' (setP s1 w 4 0) := fun s1 μ1 r f => ⟨_, rfl, f.tr (FrS.row (by decide)), r.sP (k := 4) (v := 0) (by decide)⟩
    by_cases h1 : aD s % 7 = aP s w 0
    · rw [if_pos (by omega)]
      by_cases h2 : aP s w 4 = 0
      · rw [if_pos (by omega)]
        have l1' : qcall qprogs (d + 1) 182 [qI (zI 3), qI (zI (aP s w 1 : Nat))] μ = _ := l1
        rw [l1', qbI_some, hp]
        simp only [v1, g1, zI_add]
        have hd : due s w = true := by simp [due, h1, h2]
        rw [if_pos hd]
        exact fin (setP (setP s w 1 (aP s w 1 - min 3 (aP s w 1))) w 2 (aP s w 2 + 1)) _ ((h.sP (k := 1) (by decide)).sP (k := 2) (by decide)) ((FrS.row (by decide)).tr (FrS.row (by decide)))
      · rw [if_neg (by omega)]
        have hd : due s w = false := by simp [due, h2]
        rw [hd]
        exact fin s μ h FrS.rf
    · rw [if_neg (by omega)]
      have hd : due s w = false := by simp [due, h1]
      rw [hd]
      exact fin s μ h FrS.rf
  obtain ⟨μ1, c1, f1, r1⟩ := step 0 s μ (by decide) h ok
  have ok1 : okE (endP s 0) := by
    refine ⟨by rw [aD_endP]; exact ok.1, fun w hw => ?_⟩
    rw [endP_p, endP_p, endP_p]
    obtain ⟨h0, h1, h4⟩ := ok.2 w hw
    rcases (by omega : w = 0 ∨ w = 1) with rfl | rfl
    · simp; split <;> omega
    · simp; omega
  obtain ⟨μ2, c2, f2, r2⟩ := step 1 (endP s 0) μ1 (by decide) r1 ok1
  have c1' : qx (d + 1) qc_M_ends 2 [some (qR (24, 0, 0)), some (qI (zI 0))] [] μ = qx (d + 1) qc_M_ends 2 [some (qR (24, 0, 0)), some (qI (zI 1))] [] μ1 := c1
  have c2' : qx (d + 1) qc_M_ends 2 [some (qR (24, 0, 0)), some (qI (zI 1))] [] μ1 = qx (d + 1) qc_M_ends 2 [some (qR (24, 0, 0)), some (qI (zI 2))] [] μ2 := c2
  rw [qe_M_ends, qb_M_ends_0, zI_of, c1', c2', qb_M_ends_2, zI_of, if_pos (by decide +kernel), qb_M_ends_74, r2.day, aD_endP, aD_endP, zI_of, zI_add]
  refine ⟨_, rfl, (f1.tr f2).tr (FrS.fld (Or.inr rfl)), ?_⟩
  exact r2.sD (v := aD s + 1)
/-- the reference's none -/
def onM : Option Nat → Int
  | none => -9
  | some b => b
theorem aG_wd {s : AS} {c w x : Nat} (h2 : aC s c 2 = w) (hx : x % 7 = aP s w 0) : aG s c x = aF s c x := by
  unfold aG
  rw [h2]
  simp [hx]
theorem c_M_soonestSour (d : Nat) {w x T : Nat} {s : AS} {μ : QM} (h : RM μ s) (ok : aOK s) (hw : w < 2) (hx : x ≤ 1000) (hxw : x % 7 = aP s w 0) (hT : T < 2147483648) : qcall qprogs (d + 4) 192 [qR (24, 0, 0), qI (zI w), qI (zI x), qI (zI T)] μ = some (some (qI (zI (onM (hndF s w x T.testBit (aN s))))), μ) := by
  have h12 := ok.2.1
  have L : ∀ k c, c + k = aN s → qx (d + 3) qc_M_soonestSour 7 [some (qR (24, 0, 0)), some (qI (zI w)), some (qI (zI x)), some (qI (zI T)), some (qI (zI (onM (hndF s w x T.testBit c)))), some (qI (zI c))] [] μ = some (some (qI (zI (onM (hndF s w x T.testBit (aN s))))), μ) := by
    intro k
    induction k with
    | zero =>
      intro c hc
      rw [qb_M_soonestSour_7, h.cnt]
      simp (disch := omega) only [zI_of, zI_0, zI_1, zI_add, zI_sub, zI_mul, zI_neg, zI_lt, zI_le, zI_eq, zI_rem, zI_oob, zI_ixN, zI_ix, zI_ite, zI10, zI01, Int.toNat_natCast, cond_false, cond_true, q01_0, q01_1, q01_0z, q01_1z, qB_if, qB_ifz, qB_ret, qB_retz, qbI_some, qbV_some, qbL_some, qbR_some, qbN_some, qbN_none, true_or, or_true, false_or, or_false, if_true, if_false, Int.reduceEq, Int.reduceLT, Int.reduceLE, Int.reduceNeg, qb_M_soonestSour_90]
      rw [if_pos (by omega), show c = aN s by omega]
    | succ k ih =>
      intro c hc
      have hcn : c < aN s := by omega
      have b4 := (ok.c hcn).2.2.2.2
      have b2 := (ok.c hcn).2.2.1
      have bT := aT_le ok hcn
      have i1 := ih (c + 1) (by omega)
      have eF : hndF s w x T.testBit (c + 1) = if (decide (aC s c 2 = w) && (aX s c && (!T.testBit c && aF s c x))) = true then (match hndF s w x T.testBit c with
        | none => some c
        | some b => if aT s c < aT s b then some c else some b) else hndF s w x T.testBit c := rfl
      have skip : (decide (aC s c 2 = w) && (aX s c && (!T.testBit c && aF s c x))) = false → hndF s w x T.testBit (c + 1) = hndF s w x T.testBit c := by
        intro e; rw [eF, e]; rfl
      rw [qb_M_soonestSour_7, h.cnt]
      simp (disch := omega) only [zI_of, zI_0, zI_1, zI_add, zI_sub, zI_mul, zI_neg, zI_lt, zI_le, zI_eq, zI_rem, zI_oob, zI_ixN, zI_ix, zI_ite, zI10, zI01, Int.toNat_natCast, cond_false, cond_true, q01_0, q01_1, q01_0z, q01_1z, qB_if, qB_ifz, qB_ret, qB_retz, qbI_some, qbV_some, qbL_some, qbR_some, qbN_some, qbN_none, true_or, or_true, false_or, or_false, if_true, if_false, Int.reduceEq, Int.reduceLT, Int.reduceLE, Int.reduceNeg, h.wh hcn, h.us hcn, c_M_has (d + 2) (T := T) (c := c) (μ := μ) hT (by omega), c_M_isGood d h ok hcn hx, qb_M_soonestSour_84]
      rw [if_neg (by omega)]
      by_cases h1 : aC s c 2 = w
      · rw [if_pos (by omega)]
        by_cases h2 : aC s c 4 = 0
        · rw [if_neg (by omega), aG_wd h1 hxw]
          cases hb : T.testBit c
          · cases hf : aF s c x
            · simp only [cond_false]
              rw [skip (by simp [hf])] at i1
              exact i1
            · simp only [cond_true, cond_false]
              rw [eF] at i1
              simp only [h1, aX, h2, hf, hb, decide_true, Bool.not_false, Bool.and_self, if_true] at i1
              rw [qb_M_soonestSour_60]
              cases hq : hndF s w x T.testBit c with
              | none =>
                rw [hq] at i1
                simp (disch := omega) only [zI_of, zI_0, zI_1, zI_add, zI_sub, zI_mul, zI_neg, zI_lt, zI_le, zI_eq, zI_rem, zI_oob, zI_ixN, zI_ix, zI_ite, zI10, zI01, Int.toNat_natCast, cond_false, cond_true, q01_0, q01_1, q01_0z, q01_1z, qB_if, qB_ifz, qB_ret, qB_retz, qbI_some, qbV_some, qbL_some, qbR_some, qbN_some, qbN_none, true_or, or_true, false_or, or_false, if_true, if_false, Int.reduceEq, Int.reduceLT, Int.reduceLE, Int.reduceNeg, onM, qb_M_soonestSour_80, qb_M_soonestSour_84]
                exact i1
              | some b =>
                rw [hq] at i1
                have hbb := hndF_lt _ _ hq
                have bT2 := aT_le ok (c := b) (by omega)
                have t1 := c_M_goodTill (d + 1) h ok hcn
                have t2 := c_M_goodTill (d + 1) h ok (c := b) (by omega)
                simp (disch := omega) only [zI_of, zI_0, zI_1, zI_add, zI_sub, zI_mul, zI_neg, zI_lt, zI_le, zI_eq, zI_rem, zI_oob, zI_ixN, zI_ix, zI_ite, zI10, zI01, Int.toNat_natCast, cond_false, cond_true, q01_0, q01_1, q01_0z, q01_1z, qB_if, qB_ifz, qB_ret, qB_retz, qbI_some, qbV_some, qbL_some, qbR_some, qbN_some, qbN_none, true_or, or_true, false_or, or_false, if_true, if_false, Int.reduceEq, Int.reduceLT, Int.reduceLE, Int.reduceNeg, onM, qb_M_soonestSour_80, t1, t2, qb_M_soonestSour_84]
                rw [if_neg (by omega)]
                by_cases h3 : aT s c < aT s b
                · rw [if_neg (by omega)]
                  simp only [h3, if_true] at i1
                  exact i1
                · rw [if_pos (by omega)]
                  simp only [h3, if_false] at i1
                  exact i1
          · simp only [cond_true]
            rw [skip (by simp [hb])] at i1
            exact i1
        · rw [if_pos (by omega)]
          rw [skip (by simp [aX, h2])] at i1
          exact i1
      · rw [if_neg (by omega)]
        rw [skip (by simp [h1])] at i1
        exact i1
  rw [qe_M_soonestSour, qb_M_soonestSour_0]
  exact L (aN s) 0 (by omega)
theorem hndF_tk0 (s : AS) (w x : Nat) : ∀ n, hndF s w x (0 : Nat).testBit n = hndF s w x (fun _ => false) n
  | 0 => rfl
  | n + 1 => by
    unfold hndF
    rw [hndF_tk0 s w x n]
    simp
theorem c_M_goesOne (d : Nat) {s : AS} {μ : QM} (h : RM μ s) (ok : aOK s) :
    ∃ μ', qcall qprogs (d + 5) 232 [qR (24, 0, 0)] μ = some (none, μ') ∧ FrS μ μ' ∧ RM μ' (dayS s) := by
  have step : ∀ (w : Nat) (s : AS) (μ : QM), w < 2 → RM μ s → aOK s → ∃ μ', qx (d + 4) qc_M_goesOne 2 [some (qR (24, 0, 0)), some (qI (zI w)), none] [] μ = qx (d + 4) qc_M_goesOne 2 [some (qR (24, 0, 0)), some (qI (zI ((w : Int) + 1))), none] [] μ' ∧ FrS μ μ' ∧ RM μ' (livS s w) := by
    intro w s μ hw h ok
    have b3 := ok.1
    obtain ⟨b0, -, -, -, b4⟩ := ok.p hw
    rw [qb_M_goesOne_2]
    simp (disch := omega) only [zI_of, zI_0, zI_1, zI_add, zI_sub, zI_mul, zI_neg, zI_lt, zI_le, zI_eq, zI_rem, zI_oob, zI_ixN, zI_ix, zI_ite, zI10, zI01, Int.toNat_natCast, cond_false, cond_true, q01_0, q01_1, q01_0z, q01_1z, qB_if, qB_ifz, qB_ret, qB_retz, qbI_some, qbV_some, qbL_some, qbR_some, qbN_some, qbN_none, true_or, or_true, false_or, or_false, if_true, if_false, Int.reduceEq, Int.reduceLT, Int.reduceLE, Int.reduceNeg, h.wd hw, h.day, h.je hw, qb_M_goesOne_57]
    rw [if_neg (by omega)]
    unfold livS atH
    by_cases h1 : aD s % 7 = aP s w 0
    · rw [if_pos (by omega)]
      by_cases h2 : aP s w 4 = 0
      · rw [if_neg (by omega)]
        have hd : due s w = true := by simp [due, h1, h2]
        have t0 := c_M_soonestSour d (T := 0) h ok hw (show aD s ≤ 1000 by omega) h1 (by decide)
        rw [hndF_tk0] at t0
        have t0' : qcall qprogs (d + 4) 192 [qR (24, 0, 0), qI (zI w), qI (zI (aD s)), qI (zI 0)] μ = _ := t0
        rw [if_pos hd, qb_M_goesOne_36, h.day, zI_of, t0', qbI_some]
        cases hq : hndF s w (aD s) (fun _ => false) (aN s) with
        | none =>
          rw [if_pos (by decide +kernel), qb_M_goesOne_57, zI_of, zI_add]
          exact ⟨_, rfl, FrS.rf, h⟩
        | some c =>
          obtain ⟨h3, -⟩ := hndF_lt _ _ hq
          have h12 := ok.2.1
          obtain ⟨μ1, c1, f1, r1⟩ := c_M_uses (d + 2) h ok h3
          rw [show onM (some c) = (c : Int) from rfl, if_neg (by rw [zI_0, zI_lt (by omega)]; omega), c1, qbI_some, qb_M_goesOne_57, zI_of, zI_add]
          exact ⟨_, rfl, f1, r1⟩
      · rw [if_pos (by omega)]
        have hd : due s w = false := by simp [due, h2]
        rw [hd]
        exact ⟨_, rfl, FrS.rf, h⟩
    · rw [if_neg (by omega)]
      have hd : due s w = false := by simp [due, h1]
      rw [hd]
      exact ⟨_, rfl, FrS.rf, h⟩
  obtain ⟨μ1, c1, f1, r1⟩ := step 0 s μ (by decide) h ok
  obtain ⟨μ2, c2, f2, r2⟩ := step 1 (livS s 0) μ1 (by decide) r1 (livS_ok ok 0)
  obtain ⟨μ3, c3, f3, r3⟩ := c_M_ends (d + 2) r2 (livS_ok (livS_ok ok 0) 1).e
  have c1' : qx (d + 4) qc_M_goesOne 2 [some (qR (24, 0, 0)), some (qI (zI 0)), none] [] μ = qx (d + 4) qc_M_goesOne 2 [some (qR (24, 0, 0)), some (qI (zI 1)), none] [] μ1 := c1
  have c2' : qx (d + 4) qc_M_goesOne 2 [some (qR (24, 0, 0)), some (qI (zI 1)), none] [] μ1 = qx (d + 4) qc_M_goesOne 2 [some (qR (24, 0, 0)), some (qI (zI 2)), none] [] μ2 := c2
  rw [qe_M_goesOne, qb_M_goesOne_0, zI_of, c1', c2', qb_M_goesOne_2, zI_of, if_pos (by decide +kernel), qb_M_goesOne_63, c3, qbV_some]
  exact ⟨_, rfl, (f1.tr f2).tr f3, r3⟩
theorem c_M_goesTo (d : Nat) {n : Nat} (hn : n ≤ 83) : ∀ (k : Nat) {s : AS} {μ : QM}, RM μ s → aOK s → n - aD s = k →
    ∃ μ', qcall qprogs (d + 6) 233 [qR (24, 0, 0), qI (zI n)] μ = some (none, μ') ∧ FrS μ μ' ∧ RM μ' (toS s k) := by
  have L : ∀ (k : Nat) (s : AS) (μ : QM), RM μ s → aOK s → n - aD s = k → ∃ μ', qx (d + 5) qc_M_goesTo 0 [some (qR (24, 0, 0)), some (qI (zI n))] [] μ = some (none, μ') ∧ FrS μ μ' ∧ RM μ' (toS s k) := by
    intro k
    induction k with
    | zero =>
      intro s μ h ok hk
      have := ok.1
      rw [qb_M_goesTo_0, h.day, if_pos (by rw [zI_le (by omega)]; omega), qb_M_goesTo_15]
      exact ⟨_, rfl, FrS.rf, h⟩
    | succ k ih =>
      intro s μ h ok hk
      have := ok.1
      obtain ⟨μ1, c1, f1, r1⟩ := c_M_goesOne d h ok
      obtain ⟨μ2, c2, f2, r2⟩ := ih (dayS s) μ1 r1 (dayS_ok ok (by omega)) (by rw [dayS_D]; omega)
      rw [qb_M_goesTo_0, h.day, if_neg (by rw [zI_le (by omega)]; omega), c1, qbV_some]
      exact ⟨μ2, c2, f1.tr f2, r2⟩
  intro k s μ h ok hk
  rw [qe_M_goesTo]
  exact L k s μ h ok hk
