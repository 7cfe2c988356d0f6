/-! the class's affairs: living by hand -/
/-- what one uses on a day, of the first n causes: none, or which -/
def hndF (s : AS) (w d : Nat) (tk : Nat → Bool) : Nat → Option Nat
  | 0 => none
  | n + 1 => if (decide (aC s n 2 = w) && (aX s n && (!tk n && aF s n d))) = true then (match hndF s w d tk n with
      | none => some n
      | some b => if aT s n < aT s b then some n else some b) else hndF s w d tk n
def atH (s : AS) (w : Nat) : Option Nat := if due s w = true then hndF s w (aD s) (fun _ => false) (aN s) else none
def onI : Option Nat → Int
  | none => -1
  | some b => b
def onT (s : AS) : Option Nat → Int
  | none => 0
  | some b => aT s b
theorem hndF_lt {s : AS} {w d : Nat} {tk : Nat → Bool} : ∀ n b, hndF s w d tk n = some b → b < n ∧ aC s b 2 = w ∧ aX s b = true ∧ aF s b d = true ∧ tk b = false
  | 0, b, h => by cases h
  | n + 1, b, h => by
    unfold hndF at h
    split at h
    · rename_i hc
      simp only [Bool.and_eq_true, decide_eq_true_eq, Bool.not_eq_true'] at hc
      have key : some n = some b → b < n + 1 ∧ aC s b 2 = w ∧ aX s b = true ∧ aF s b d = true ∧ tk b = false := by
        intro e
        cases e
        exact ⟨by omega, hc.1, hc.2.1, hc.2.2.2, hc.2.2.1⟩
      cases hq : hndF s w d tk n with
      | none => rw [hq] at h; exact key h
      | some b' =>
        rw [hq] at h
        obtain ⟨h1, h2⟩ := hndF_lt n b' hq
        dsimp only at h
        split at h
        · exact key h
        · cases h
          exact ⟨by omega, h2⟩
    · obtain ⟨h1, h2⟩ := hndF_lt n b h
      exact ⟨by omega, h2⟩
theorem aT_le {s : AS} (ok : aOK s) {c : Nat} (hc : c < aN s) : aT s c ≤ 118 := by
  have := ok.k hc
  have := (ok.c hc).2.2.2.1
  unfold aT
  omega
theorem c_Affair_atHand (d : Nat) {j w : Nat} {s : AS} {μ : QM} (hj : j < 11) (h : RA μ j s) (ok : aOK s) (hw : w < 2) : qcall qprogs (d + 2) 23 [qR (2, j, 0), qI (zI w)] μ = some (some (qI (zI (onI (atH s w)))), μ) := by
  have h12 := ok.2.1
  have h83 := ok.1
  have L : ∀ k c, c + k = aN s → qx (d + 1) qc_Affair_atHand 24 [some (qR (2, j, 0)), some (qI (zI w)), some (qI (zI (onI (hndF s w (aD s) (fun _ => false) c)))), some (qI (zI (onT s (hndF s w (aD s) (fun _ => false) c)))), some (qI (zI c)), none] [] μ = some (some (qI (zI (onI (hndF s w (aD s) (fun _ => false) (aN s))))), μ) := by
    intro k
    induction k with
    | zero =>
      intro c hc
      rw [qb_Affair_atHand_24, h.cnt]
      simp (disch := omega) only [zI_of, zI_0, zI_1, zI_add, zI_sub, zI_mul, zI_neg, zI_lt, zI_le, zI_eq, zI_rem, zI_oob, zI_ixN, zI_ix, zI_ite, zI10, zI01, Int.toNat_natCast, cond_false, cond_true, q01_0, q01_1, q01_0z, q01_1z, qB_if, qB_ifz, qB_ret, qB_retz, qbI_some, qbV_some, qbL_some, qbR_some, qbN_some, qbN_none, true_or, or_true, false_or, or_false, if_true, if_false, Int.reduceEq, Int.reduceLT, Int.reduceLE, Int.reduceNeg, qb_Affair_atHand_109]
      rw [if_pos (by omega), show c = aN s by omega]
    | succ k ih =>
      intro c hc
      have hcn : c < aN s := by omega
      have b4 := (ok.c hcn).2.2.2.2
      have b2 := (ok.c hcn).2.2.1
      have bT := aT_le ok hcn
      have i1 := ih (c + 1) (by omega)
      have eF : hndF s w (aD s) (fun _ => false) (c + 1) = if (decide (aC s c 2 = w) && (aX s c && (!false && aF s c (aD s)))) = true then (match hndF s w (aD s) (fun _ => false) c with
        | none => some c
        | some b => if aT s c < aT s b then some c else some b) else hndF s w (aD s) (fun _ => false) c := rfl
      rw [qb_Affair_atHand_24, h.cnt]
      simp (disch := omega) only [zI_of, zI_0, zI_1, zI_add, zI_sub, zI_mul, zI_neg, zI_lt, zI_le, zI_eq, zI_rem, zI_oob, zI_ixN, zI_ix, zI_ite, zI10, zI01, Int.toNat_natCast, cond_false, cond_true, q01_0, q01_1, q01_0z, q01_1z, qB_if, qB_ifz, qB_ret, qB_retz, qbI_some, qbV_some, qbL_some, qbR_some, qbN_some, qbN_none, true_or, or_true, false_or, or_false, if_true, if_false, Int.reduceEq, Int.reduceLT, Int.reduceLE, Int.reduceNeg, h.c 2 hcn, h.c 4 hcn, qbz_z b4, h.day, c_Cause_isFreshOn d hj h ok hcn (show aD s ≤ 1000 by omega), qb_Affair_atHand_103]
      rw [if_neg (by omega), if_neg (by omega)]
      have skip : (decide (aC s c 2 = w) && (aX s c && (!false && aF s c (aD s)))) = false → hndF s w (aD s) (fun _ => false) (c + 1) = hndF s w (aD s) (fun _ => false) c := by
        intro e; rw [eF, e]; rfl
      by_cases h1 : aC s c 2 = w
      · rw [if_pos (by omega)]
        by_cases h2 : aC s c 4 = 0
        · rw [if_pos (by omega)]
          cases hf : aF s c (aD s)
          · simp only [cond_false]
            rw [skip (by simp [hf])] at i1
            exact i1
          · simp only [cond_true]
            rw [eF] at i1
            simp only [h1, aX, h2, hf, decide_true, Bool.not_false, Bool.and_self, if_true] at i1
            rw [qb_Affair_atHand_81]
            cases hq : hndF s w (aD s) (fun _ => false) c with
            | none =>
              rw [hq] at i1
              simp (disch := omega) only [zI_of, zI_0, zI_1, zI_add, zI_sub, zI_mul, zI_neg, zI_lt, zI_le, zI_eq, zI_rem, zI_oob, zI_ixN, zI_ix, zI_ite, zI10, zI01, Int.toNat_natCast, cond_false, cond_true, q01_0, q01_1, q01_0z, q01_1z, qB_if, qB_ifz, qB_ret, qB_retz, qbI_some, qbV_some, qbL_some, qbR_some, qbN_some, qbN_none, true_or, or_true, false_or, or_false, if_true, if_false, Int.reduceEq, Int.reduceLT, Int.reduceLE, Int.reduceNeg, onI, onT, qb_Affair_atHand_94, c_Cause_lastDay d hj h ok hcn, qb_Affair_atHand_103]
              exact i1
            | some b =>
              rw [hq] at i1
              have hb := hndF_lt _ _ hq
              have bT2 := aT_le ok (c := b) (by omega)
              simp (disch := omega) only [zI_of, zI_0, zI_1, zI_add, zI_sub, zI_mul, zI_neg, zI_lt, zI_le, zI_eq, zI_rem, zI_oob, zI_ixN, zI_ix, zI_ite, zI10, zI01, Int.toNat_natCast, cond_false, cond_true, q01_0, q01_1, q01_0z, q01_1z, qB_if, qB_ifz, qB_ret, qB_retz, qbI_some, qbV_some, qbL_some, qbR_some, qbN_some, qbN_none, true_or, or_true, false_or, or_false, if_true, if_false, Int.reduceEq, Int.reduceLT, Int.reduceLE, Int.reduceNeg, onI, onT, qb_Affair_atHand_94, c_Cause_lastDay d hj h ok hcn, qb_Affair_atHand_103]
              rw [if_neg (by omega)]
              by_cases h3 : aT s c < aT s b
              · rw [if_neg (by omega)]
                simp only [h3, if_true] at i1
                exact i1
              · rw [if_pos (by omega)]
                simp only [h3, if_false] at i1
                exact i1
        · rw [if_neg (by omega)]
          rw [skip (by simp [aX, h2])] at i1
          exact i1
      · rw [if_neg (by omega)]
        rw [skip (by simp [h1])] at i1
        exact i1
  rw [qe_Affair_atHand (h0 := qd2 hj), qb_Affair_atHand_0, c_Affair_person (d + 0) hj hw, qbR_some (qd3 hj hw), h.day, c_Person_isDueOn (d + 0) hj h ok hw]
  simp (disch := omega) only [zI_of, zI_0, zI_1, zI_add, zI_sub, zI_mul, zI_neg, zI_lt, zI_le, zI_eq, zI_rem, zI_oob, zI_ixN, zI_ix, zI_ite, zI10, zI01, Int.toNat_natCast, cond_false, cond_true, q01_0, q01_1, q01_0z, q01_1z, qB_if, qB_ifz, qB_ret, qB_retz, qbI_some, qbV_some, qbL_some, qbR_some, qbN_some, qbN_none, true_or, or_true, false_or, or_false, if_true, if_false, Int.reduceEq, Int.reduceLT, Int.reduceLE, Int.reduceNeg, qb_Affair_atHand_17]
  unfold atH
  cases hd : due s w
  · rfl
  · simp only [cond_true, if_true]
    exact L (aN s) 0 (by omega)
theorem aC_use (s : AS) (c c' k : Nat) (hk : k ≠ 4) : aC (useC s c) c' k = aC s c' k := by
  unfold useC
  rw [aC_setC, if_neg (by omega)]
  rfl
theorem aW_use (s : AS) (c c' : Nat) : aW (useC s c) c' = aW s c' := by
  unfold aW
  rw [aC_use _ _ _ _ (by decide), aC_use _ _ _ _ (by decide)]
/-- one day of one -/
def livS (s : AS) (w : Nat) : AS := match atH s w with
  | none => s
  | some c => useC s c
def livW (s : AS) (w : Nat) : Nat := match atH s w with
  | none => 0
  | some c => aW s c
theorem atH_lt {s : AS} {w c : Nat} (h : atH s w = some c) : c < aN s ∧ aC s c 2 = w ∧ aX s c = true ∧ aF s c (aD s) = true := by
  unfold atH at h
  split at h
  · obtain ⟨h1, h2, h3, h4, -⟩ := hndF_lt _ _ h
    exact ⟨h1, h2, h3, h4⟩
  · cases h
theorem livS_ok {s : AS} (ok : aOK s) (w : Nat) : aOK (livS s w) := by
  unfold livS
  cases h : atH s w with
  | none => exact ok
  | some c =>
    obtain ⟨h1, -, h3, -⟩ := atH_lt h
    exact aOK_use ok h1 (by simpa [aX] using h3)
theorem livS_D (s : AS) (w : Nat) : aD (livS s w) = aD s := by
  unfold livS
  cases atH s w <;> rfl
theorem livS_N (s : AS) (w : Nat) : aN (livS s w) = aN s := by
  unfold livS
  cases atH s w <;> rfl
theorem c_Affair_liveDay (d : Nat) {j w : Nat} {s : AS} {μ : QM} (hj : j < 11) (h : RA μ j s) (ok : aOK s) (hw : w < 2) :
    ∃ μ', qcall qprogs (d + 3) 24 [qR (2, j, 0), qI (zI w)] μ = some (some (qI (zI (livW s w))), μ') ∧ Fr (isA j) μ μ' ∧ RA μ' j (livS s w) := by
  have h12 := ok.2.1
  rw [qe_Affair_liveDay (h0 := qd2 hj), qb_Affair_liveDay_0, c_Affair_atHand d hj h ok hw, qbI_some]
  unfold livW livS
  cases hq : atH s w with
  | none =>
    rw [c_Affair_causeAtN (d + 1) hj h ok (Or.inl (by decide +kernel)), qbN_none]
    exact ⟨_, rfl, Fr.rf, h⟩
  | some c =>
    obtain ⟨h1, -, h3, -⟩ := atH_lt hq
    obtain ⟨μ1, c1, f1, r1⟩ := c_Affair_spend d hj h ok h1
    simp only [onI]
    rw [c_Affair_causeAt (d + 1) hj h ok h1, qbN_some (qd1 hj (by omega)), qb_Affair_liveDay_16, c1, qbI_some, r1.w (c := c) h1]
    rw [aW_use]
    exact ⟨_, rfl, f1, r1⟩
def dayS (s : AS) : AS := endD (livS (livS s 0) 1)
def toS (s : AS) : Nat → AS
  | 0 => s
  | n + 1 => toS (dayS s) n
theorem dayS_ok {s : AS} (ok : aOK s) (h : aD s < 83) : aOK (dayS s) := aOK_endD (livS_ok (livS_ok ok 0) 1) (by rw [livS_D, livS_D]; exact h)
theorem dayS_D (s : AS) : aD (dayS s) = aD s + 1 := by
  unfold dayS
  rw [aD_endD, livS_D, livS_D]
theorem toS_ok : ∀ (n : Nat) {s : AS}, aOK s → aD s + n ≤ 83 → aOK (toS s n)
  | 0, _, ok, _ => ok
  | n + 1, s, ok, h => toS_ok n (dayS_ok ok (by omega)) (by rw [dayS_D]; omega)
theorem toS_D : ∀ (n : Nat) (s : AS), aD (toS s n) = aD s + n
  | 0, _ => rfl
  | n + 1, s => by
    show aD (toS (dayS s) n) = _
    rw [toS_D n, dayS_D]
    omega
theorem c_Affair_liveTo (d : Nat) {j n : Nat} {s : AS} {μ : QM} (hj : j < 11) (h : RA μ j s) (ok : aOK s) (hn : n ≤ 83) :
    ∃ μ', qcall qprogs (d + 4) 25 [qR (2, j, 0), qI (zI n)] μ = some (none, μ') ∧ Fr (isA j) μ μ' ∧ RA μ' j (toS s (n - aD s)) := by
  have L : ∀ k (s : AS) (μ : QM), RA μ j s → aOK s → n - aD s = k → ∃ μ', qx (d + 3) qc_Affair_liveTo 5 [some (qR (2, j, 0)), some (qI (zI n)), some (qI (zI (aD s)))] [] μ = some (none, μ') ∧ Fr (isA j) μ μ' ∧ RA μ' j (toS s k) := by
    intro k
    induction k with
    | zero =>
      intro s μ h ok hk
      have := ok.1
      rw [qb_Affair_liveTo_5]
      simp (disch := omega) only [zI_of, zI_0, zI_1, zI_add, zI_sub, zI_mul, zI_neg, zI_lt, zI_le, zI_eq, zI_rem, zI_oob, zI_ixN, zI_ix, zI_ite, zI10, zI01, Int.toNat_natCast, cond_false, cond_true, q01_0, q01_1, q01_0z, q01_1z, qB_if, qB_ifz, qB_ret, qB_retz, qbI_some, qbV_some, qbL_some, qbR_some, qbN_some, qbN_none, true_or, or_true, false_or, or_false, if_true, if_false, Int.reduceEq, Int.reduceLT, Int.reduceLE, Int.reduceNeg, qb_Affair_liveTo_32]
      rw [if_pos (by omega)]
      exact ⟨_, rfl, Fr.rf, h⟩
    | succ k ih =>
      intro s μ h ok hk
      have := ok.1
      obtain ⟨μ1, c1, f1, r1⟩ := c_Affair_liveDay d hj h ok (w := 0) (by decide)
      obtain ⟨μ2, c2, f2, r2⟩ := c_Affair_liveDay d hj r1 (livS_ok ok 0) (w := 1) (by decide)
      obtain ⟨μ3, c3, f3, r3⟩ := c_Affair_endDay d hj r2 (livS_ok (livS_ok ok 0) 1)
      obtain ⟨μ4, c4, f4, r4⟩ := ih (dayS s) μ3 r3 (dayS_ok ok (by omega)) (by rw [dayS_D]; omega)
      rw [qb_Affair_liveTo_5, zI_of, zI_of, if_neg (by rw [zI_le (by omega)]; omega)]
      have c1' : qcall qprogs (d + 3) 24 [qR (2, j, 0), qI (zI 0)] μ = _ := c1
      have c2' : qcall qprogs (d + 3) 24 [qR (2, j, 0), qI (zI 1)] μ1 = _ := c2
      rw [c1', qbI_some, c2', qbI_some, c3, qbV_some, zI_add]
      rw [dayS_D] at c4
      exact ⟨μ4, c4, ((f1.tr f2).tr f3).tr f4, r4⟩
  rw [qe_Affair_liveTo (h0 := qd2 hj), qb_Affair_liveTo_0, h.day]
  exact L _ s μ h ok rfl
