/-! the class's causes and persons -/
theorem c_Cause_lastDay (d : Nat) {j c : Nat} {s : AS} {μ : QM} (hj : j < 11) (h : RA μ j s) (ok : aOK s) (hc : c < aN s) : qcall qprogs (d + 1) 2 [qR (1, j, c)] μ = some (some (qI (zI (aT s c))), μ) := by
  have h12 := ok.2.1
  rw [qe_Cause_lastDay (h0 := qd1 hj (by omega)), qb_Cause_lastDay_0, h.2.2.2.1 c 3 hc (by decide), (h.2.2.2.2 c hc).1, zI_add]
  rfl
theorem c_Cause_isFreshOn (d : Nat) {j c x : Nat} {s : AS} {μ : QM} (hj : j < 11) (h : RA μ j s) (ok : aOK s) (hc : c < aN s) (hx : x ≤ 1000) : qcall qprogs (d + 1) 3 [qR (1, j, c), qI (zI x)] μ = some (some (qI (qB (aF s c x))), μ) := by
  have h12 := ok.2.1
  have b1 := (ok.c hc).2.2.2.1
  have b2 := ok.k hc
  rw [qe_Cause_isFreshOn (h0 := qd1 hj (by omega)), qb_Cause_isFreshOn_0, h.2.2.2.1 c 3 hc (by decide), (h.2.2.2.2 c hc).1]
  simp only [qb_Cause_isFreshOn_25, qb_Cause_isFreshOn_26, zI_of, zI_sub, zI_lt (show -2147483648 ≤ (x : Int) ∧ (x : Int) < 2147483648 ∧ -2147483648 ≤ (aC s c 3 : Int) ∧ (aC s c 3 : Int) < 2147483648 by omega), zI_lt (show -2147483648 ≤ (aK s c : Int) ∧ (aK s c : Int) < 2147483648 ∧ -2147483648 ≤ (x : Int) - (aC s c 3 : Int) ∧ (x : Int) - (aC s c 3 : Int) < 2147483648 by omega), q01_0, q01_1]
  unfold aF aT
  by_cases h1 : aC s c 3 ≤ x
  · by_cases h2 : x ≤ aC s c 3 + aK s c
    · rw [if_neg (by omega), if_neg (by omega)]; simp [h1, h2, qB]
    · rw [if_neg (by omega), if_pos (by omega)]; simp [h1, h2, qB]
  · rw [if_pos (by omega)]; simp [h1, qB]
