/-! the class's causes and persons -/
theorem c_Cause_lastDay (d : Nat) {j c : Nat} {s : AS} {μ : QM} (hj : j < 11) (h : RA μ j s) (ok : aOK s) (hc : c < aN s) : qcall qprogs (d + 1) 2 [qR (1, j, c)] μ = some (some (qI (zI (aT s c))), μ) := by
  have h12 := ok.2.1
  rw [qe_Cause_lastDay (h0 := qd1 hj (by omega)), qb_Cause_lastDay_0, h.2.2.2.1 c 3 hc (by decide), (h.2.2.2.2 c hc).1, zI_add]
  rfl
theorem c_Cause_isFreshOn (d : Nat) {j c x : Nat} {s : AS} {μ : QM} (hj : j < 11) (h : RA μ j s) (ok : aOK s) (hc : c < aN s) (hx : x ≤ 1000) : qcall qprogs (d + 1) 3 [qR (1, j, c), qI (zI x)] μ = some (some (qI (qB (aF s c x))), μ) := by
  have h12 := ok.2.1
  have b1 := (ok.c hc).2.2.2.1
  have b2 := ok.k hc
  rw [qe_Cause_isFreshOn (h0 := qd1 hj (by omega)), qb_Cause_isFreshOn_0, h.2.2.2.1 c 3 hc (by decide), (h.2.2.2.2 c hc).1]
  simp only [qb_Cause_isFreshOn_25, qb_Cause_isFreshOn_26, zI_of, zI_sub, zI_lt (show -2147483648 ≤ (x : Int) ∧ (x : Int) < 2147483648 ∧ -2147483648 ≤ (aC s c 3 : Int) ∧ (aC s c 3 : Int) < 2147483648 by omega), zI_lt (show -2147483648 ≤ (aK s c : Int) ∧ (aK s c : Int) < 2147483648 ∧ -2147483648 ≤ (x : Int) - (aC s c 3 : Int) ∧ (x : Int) - (aC s c 3 : Int) < 2147483648 by omega), q01_0, q01_1]
  unfold aF aT
  by_cases h1 : aC s c 3 ≤ x
  · by_cases h2 : x ≤ aC s c 3 + aK s c
    · rw [if_neg (by omega), if_neg (by omega)]; simp [h1, h2, qB]
    · rw [if_neg (by omega), if_pos (by omega)]; simp [h1, h2, qB]
  · rw [if_pos (by omega)]; simp [h1, qB]
theorem c_Cause_copyFrom (d : Nat) {j c j' c' : Nat} {μ : QM} (hj : j < 11) (hc : c < 12) (hj' : j' < 11) (hc' : c' < 12) (hne : j' ≠ j) :
    ∃ μ', qcall qprogs (d + 1) 0 [qR (1, j, c), qR (1, j', c')] μ = some (none, μ') ∧ Fr (fun a => a = (1, j, c)) μ μ' ∧ (∀ k, k < 7 → k ≠ 4 → μ'.1 (1, j, c) k = μ.1 (1, j', c') k) ∧ μ'.1 (1, j, c) 4 = qbz (μ.1 (1, j', c') 4) := by
  rw [qe_Cause_copyFrom (h0 := qd1 hj hc) (h1 := qd1 hj' hc'), qb_Cause_copyFrom_0]
  simp only [if_pos (qbz_01 _)]
  refine ⟨_, rfl, ?_, ?_, ?_⟩
  · iterate 7 refine Fr.si' ?_ rfl
    exact Fr.rf
  · intro k hk h4
    rcases (by omega : k = 0 ∨ k = 1 ∨ k = 2 ∨ k = 3 ∨ k = 5 ∨ k = 6) with rfl | rfl | rfl | rfl | rfl | rfl <;> simp [qsi_get, hne]
  · simp [qsi_get, hne]
def lastI (k f : Int32) : Int32 := if k = Int32.ofInt 1 then Int32.ofInt 2 * (Int32.ofInt 5 + f) else if k = Int32.ofInt 2 then (Int32.ofInt 5 + f) / Int32.ofInt 2 else if k = Int32.ofInt 3 then Int32.ofInt 0 else if k = Int32.ofInt 4 then (Int32.ofInt 5 + f) / Int32.ofInt 2 - Int32.ofInt 1 else if k = Int32.ofInt 5 then Int32.ofInt 2 * (Int32.ofInt 5 + f) + Int32.ofInt 7 else Int32.ofInt 5 + f
theorem lastI_ok : ∀ k, k < 6 → ∀ f, f < 10 → lastI (zI (k : Nat)) (zI (f : Nat)) = zI (kpo k f) := by decide +kernel
theorem c_Cause_lastingOf (d : Nat) {k f : Nat} {μ : QM} (hk : k ≤ 5) (hf : f ≤ 9) : qcall qprogs (d + 1) 4 [qI (zI k), qI (zI f)] μ = some (some (qI (zI (kpo k f))), μ) := by
  rw [qe_Cause_lastingOf, qb_Cause_lastingOf_0, ← lastI_ok k (by omega) f (by omega)]
  unfold lastI
  simp only [qb_Cause_lastingOf_40, qb_Cause_lastingOf_44, qb_Cause_lastingOf_48, qb_Cause_lastingOf_50, qb_Cause_lastingOf_56, qb_Cause_lastingOf_63, if_neg (show ¬ Int32.ofInt 2 = 0 by decide)]
  repeat' split
  all_goals rfl
def weightI (k f : Int32) : Int32 := if k = Int32.ofInt 1 then f + Int32.ofInt 1 + Int32.ofInt 2 else if k = Int32.ofInt 2 then Int32.ofInt 2 * (f + Int32.ofInt 1) else if k = Int32.ofInt 3 then (f + Int32.ofInt 1) / Int32.ofInt 2 else if k = Int32.ofInt 4 then Int32.ofInt 2 * (f + Int32.ofInt 1) + Int32.ofInt 9 else if k = Int32.ofInt 5 then f + Int32.ofInt 1 + Int32.ofInt 1 else f + Int32.ofInt 1
theorem weightI_ok : ∀ k, k < 6 → ∀ f, f < 10 → weightI (zI (k : Nat)) (zI (f : Nat)) = zI (wgt k f) := by decide +kernel
theorem c_Cause_weightOf (d : Nat) {k f : Nat} {μ : QM} (hk : k ≤ 5) (hf : f ≤ 9) : qcall qprogs (d + 1) 5 [qI (zI k), qI (zI f)] μ = some (some (qI (zI (wgt k f))), μ) := by
  rw [qe_Cause_weightOf, qb_Cause_weightOf_0, ← weightI_ok k (by omega) f (by omega)]
  unfold weightI
  simp only [qb_Cause_weightOf_40, qb_Cause_weightOf_44, qb_Cause_weightOf_48, qb_Cause_weightOf_52, qb_Cause_weightOf_59, qb_Cause_weightOf_63, if_neg (show ¬ Int32.ofInt 2 = 0 by decide)]
  repeat' split
  all_goals rfl
theorem c_Cause_become (d : Nat) {j c k f w x : Nat} {μ : QM} (hj : j < 11) (hc : c < 12) (hk : k ≤ 5) (hf : f ≤ 9) :
    ∃ μ', qcall qprogs (d + 2) 1 [qR (1, j, c), qI (zI k), qI (zI f), qI (zI w), qI (zI x)] μ = some (none, μ') ∧ Fr (fun a => a = (1, j, c)) μ μ' ∧ μ'.1 (1, j, c) 0 = zI k ∧ μ'.1 (1, j, c) 1 = zI f ∧ μ'.1 (1, j, c) 2 = zI w ∧ μ'.1 (1, j, c) 3 = zI x ∧ μ'.1 (1, j, c) 4 = zI 0 ∧ μ'.1 (1, j, c) 5 = zI (kpo k f) ∧ μ'.1 (1, j, c) 6 = zI (wgt k f) := by
  rw [qe_Cause_become (h0 := qd1 hj hc), qb_Cause_become_0]
  simp only [zI_of, q01_0, c_Cause_lastingOf d hk hf, c_Cause_weightOf d hk hf, qbI_some]
  refine ⟨_, rfl, ?_, ?_⟩
  · iterate 7 refine Fr.si' ?_ rfl
    exact Fr.rf
  · simp [qsi_get]
theorem c_Person_copyFrom (d : Nat) {j w j' w' : Nat} {μ : QM} (hj : j < 11) (hc : w < 2) (hj' : j' < 11) (hc' : w' < 2) (hne : j' ≠ j) :
    ∃ μ', qcall qprogs (d + 1) 6 [qR (3, j, w), qR (3, j', w')] μ = some (none, μ') ∧ Fr (fun a => a = (3, j, w)) μ μ' ∧ (∀ k, k < 4 → μ'.1 (3, j, w) k = μ.1 (3, j', w') k) ∧ μ'.1 (3, j, w) 4 = qbz (μ.1 (3, j', w') 4) := by
  rw [qe_Person_copyFrom (h0 := qd3 hj hc) (h1 := qd3 hj' hc'), qb_Person_copyFrom_0]
  simp only [if_pos (qbz_01 _)]
  refine ⟨_, rfl, ?_, ?_, ?_⟩
  · iterate 5 refine Fr.si' ?_ rfl
    exact Fr.rf
  · intro k hk
    rcases (by omega : k = 0 ∨ k = 1 ∨ k = 2 ∨ k = 3) with rfl | rfl | rfl | rfl <;> simp [qsi_get, hne]
  · simp [qsi_get, hne]
theorem c_Person_isDueOn (d : Nat) {j w : Nat} {s : AS} {μ : QM} (hj : j < 11) (h : RA μ j s) (ok : aOK s) (hw : w < 2) : qcall qprogs (d + 1) 7 [qR (3, j, w), qI (zI (aD s))] μ = some (some (qI (qB (due s w))), μ) := by
  have b1 := ok.1
  have b2 := (ok.p hw).1
  have b3 := (ok.p hw).2.2.2.2
  rw [qe_Person_isDueOn (h0 := qd3 hj hw), qb_Person_isDueOn_0, h.2.2.1 w 0 hw (by decide), h.2.2.1 w 4 hw (by decide), qbz_z b3]
  simp (disch := omega) only [zI_of, zI_0, zI_1, zI_add, zI_sub, zI_mul, zI_neg, zI_lt, zI_le, zI_eq, zI_rem, zI_oob, zI_ixN, zI_ix, zI_ite, zI10, zI01, Int.toNat_natCast, cond_false, cond_true, q01_0, q01_1, q01_0z, q01_1z, qB_if, qB_ifz, qB_ret, qB_retz, qbI_some, qbV_some, qbL_some, qbR_some, qbN_some, qbN_none, true_or, or_true, false_or, or_false, if_true, if_false, Int.reduceEq, Int.reduceLT, Int.reduceLE, Int.reduceNeg, qb_Person_isDueOn_22, qb_Person_isDueOn_23]
  unfold due
  by_cases h1 : aD s % 7 = aP s w 0
  · by_cases h2 : aP s w 4 = 0
    · first | (simp [h1, h2, qB]; done) | (simp [h1, h2, qB]; omega)
    · first | (simp [h1, h2, qB]; done) | (simp [h1, h2, qB]; omega)
  · first | (simp [h1, qB]; done) | (simp [h1, qB]; omega)
