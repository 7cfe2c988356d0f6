/-! the reference lays out -/
def isQ (a : QA) : Prop := a = (24, 0, 0) ∨ (41 ≤ a.1 ∧ a.1 ≤ 43)
def FrQ (μ μ' : QM) : Prop := Fr isQ μ μ' ∧ ∀ k, k ≠ 27 → k ≠ 29 → μ'.1 (24, 0, 0) k = μ.1 (24, 0, 0) k
theorem FrQ.rf {μ : QM} : FrQ μ μ := ⟨Fr.rf, fun _ _ _ => rfl⟩
theorem FrQ.tr {μ μ1 μ2 : QM} (h : FrQ μ μ1) (h2 : FrQ μ1 μ2) : FrQ μ μ2 := ⟨h.1.tr h2.1, fun k a b => (h2.2 k a b).trans (h.2 k a b)⟩
theorem FrQ.row {μ : QM} {t k : Nat} {v : Int32} (ht : 41 ≤ t ∧ t ≤ 43) : FrQ μ (qsi μ (t, 0, 0) k v) := ⟨Fr.si (Or.inr ht), fun j _ _ => by rw [qsi_ne (by simp; omega)]⟩
theorem FrQ.fld {μ : QM} {k : Nat} {v : Int32} (hk : k = 27 ∨ k = 29) : FrQ μ (qsi μ (24, 0, 0) k v) := ⟨Fr.si (Or.inl rfl), fun j a b => by rw [qsi_get, if_neg (by simp; omega)]⟩
theorem RM.q {μ μ' : QM} {s : AS} (h : RM μ s) (f : FrQ μ μ') : RM μ' s := h.congr (f.2 12 (by decide) (by decide)) (f.2 11 (by decide) (by decide)) (fun k hk => f.1.1 _ (by unfold isQ; simp; omega)) rfl rfl (fun _ _ _ _ => rfl) (fun _ _ _ _ => rfl)
def PDm (μ : QM) (m : Nat) (D : Nat → Nat) : Prop := m ≤ 12 ∧ μ.1 (24, 0, 0) 27 = zI (m : Nat) ∧ ∀ i, i < m → D i ≤ 1000 ∧ μ.1 (41, 0, 0) i = zI (D i : Nat)
theorem PDm.congr {μ μ' : QM} {m : Nat} {D : Nat → Nat} (h : PDm μ m D) (e1 : μ'.1 (24, 0, 0) 27 = μ.1 (24, 0, 0) 27) (e2 : μ'.1 (41, 0, 0) = μ.1 (41, 0, 0)) : PDm μ' m D := ⟨h.1, by rw [e1]; exact h.2.1, fun i hi => by rw [e2]; exact h.2.2 i hi⟩
theorem c_M_findNeeds (d : Nat) {w n : Nat} {s : AS} {μ : QM} (h : RM μ s) (ok : aOK s) (hw : w < 2) (hn : aD s ≤ n) (hn2 : n ≤ 83) :
    ∃ μ', qcall qprogs (d + 1) 191 [qR (24, 0, 0), qI (zI (w : Nat)), qI (zI (n : Nat))] μ = some (none, μ') ∧ FrQ μ μ' ∧ PDm μ' (nM s w (aP s w 0) n) (nD s w (aP s w 0)) := by
  have b4 := (ok.p hw).2.2.2.2
  have b0 := (ok.p hw).1
  have bD := ok.1
  obtain ⟨N0, hN0⟩ : ∃ x, n0 s w (aP s w 0) = x := ⟨_, rfl⟩
  have hN1 : aD s + aP s w 4 ≤ N0 ∧ N0 ≤ aD s + aP s w 4 + 6 ∧ N0 % 7 = aP s w 0 := by rw [← hN0]; unfold n0; omega
  have L : ∀ k t μ1, t + k = n + 1 → aD s ≤ t → FrQ μ μ1 → PDm μ1 ((t + 6 - N0) / 7) (nD s w (aP s w 0)) →
      ∃ μ', qx d qc_M_findNeeds 10 [some (qR (24, 0, 0)), some (qI (zI (w : Nat))), some (qI (zI (n : Nat))), some (qI (zI (t : Nat)))] [] μ1 = some (none, μ') ∧ FrQ μ μ' ∧ PDm μ' (nM s w (aP s w 0) n) (nD s w (aP s w 0)) := by
    intro k
    induction k with
    | zero =>
      intro t μ1 ht _ fr hPD
      rw [qb_M_findNeeds_10]
      simp (disch := omega) only [zI_of, zI_0, zI_1, zI_add, zI_sub, zI_mul, zI_neg, zI_lt, zI_le, zI_eq, zI_rem, zI_oob, zI_ixN, zI_ix, zI_ite, zI10, zI01, Int.toNat_natCast, cond_false, cond_true, q01_0, q01_1, q01_0z, q01_1z, qB_if, qB_ifz, qB_ret, qB_retz, qbI_some, qbV_some, qbL_some, qbR_some, qbN_some, qbN_none, true_or, or_true, false_or, or_false, if_true, if_false, Int.reduceEq, Int.reduceLT, Int.reduceLE, Int.reduceNeg, qb_M_findNeeds_75]
      rw [if_pos (by omega)]
      refine ⟨_, rfl, fr, ?_⟩
      have e : nM s w (aP s w 0) n = (t + 6 - N0) / 7 := by unfold nM; rw [hN0]; congr 1; omega
      rw [e]
      exact hPD
    | succ k ih =>
      intro t μ1 ht hDt fr hPD
      have hR := h.q fr
      have hx : nD s w (aP s w 0) ((t + 6 - N0) / 7) = N0 + 7 * ((t + 6 - N0) / 7) := by unfold nD; rw [hN0]
      have skip : (t + 1 + 6 - N0) / 7 = (t + 6 - N0) / 7 → ∃ μ', qx d qc_M_findNeeds 69 [some (qR (24, 0, 0)), some (qI (zI (w : Nat))), some (qI (zI (n : Nat))), some (qI (zI (t : Nat)))] [] μ1 = some (none, μ') ∧ FrQ μ μ' ∧ PDm μ' (nM s w (aP s w 0) n) (nD s w (aP s w 0)) := fun e => by
        rw [qb_M_findNeeds_69]
        simp (disch := omega) only [zI_of, zI_0, zI_1, zI_add, zI_sub, zI_mul, zI_neg, zI_lt, zI_le, zI_eq, zI_rem, zI_oob, zI_ixN, zI_ix, zI_ite, zI10, zI01, Int.toNat_natCast, cond_false, cond_true, q01_0, q01_1, q01_0z, q01_1z, qB_if, qB_ifz, qB_ret, qB_retz, qbI_some, qbV_some, qbL_some, qbR_some, qbN_some, qbN_none, true_or, or_true, false_or, or_false, if_true, if_false, Int.reduceEq, Int.reduceLT, Int.reduceLE, Int.reduceNeg]
        exact ih (t + 1) μ1 (by omega) (by omega) fr (by rw [e]; exact hPD)
      have take : (t + 1 + 6 - N0) / 7 = (t + 6 - N0) / 7 + 1 → (t + 6 - N0) / 7 < 12 → N0 + 7 * ((t + 6 - N0) / 7) = t → ∃ μ', qx d qc_M_findNeeds 49 [some (qR (24, 0, 0)), some (qI (zI (w : Nat))), some (qI (zI (n : Nat))), some (qI (zI (t : Nat)))] [] μ1 = some (none, μ') ∧ FrQ μ μ' ∧ PDm μ' (nM s w (aP s w 0) n) (nD s w (aP s w 0)) := fun e hl hx2 => by
        obtain ⟨p1, p2, p3⟩ := hPD
        rw [qb_M_findNeeds_49, p2, zI_oob (n := 12) (by omega), cond_false, show qix (zI ((t + 6 - N0) / 7 : Nat)) = (t + 6 - N0) / 7 from zI_ixN (by omega), qsi_ne (by simp), p2, qb_M_findNeeds_69]
        simp (disch := omega) only [zI_of, zI_0, zI_1, zI_add, zI_sub, zI_mul, zI_neg, zI_lt, zI_le, zI_eq, zI_rem, zI_oob, zI_ixN, zI_ix, zI_ite, zI10, zI01, Int.toNat_natCast, cond_false, cond_true, q01_0, q01_1, q01_0z, q01_1z, qB_if, qB_ifz, qB_ret, qB_retz, qbI_some, qbV_some, qbL_some, qbR_some, qbN_some, qbN_none, true_or, or_true, false_or, or_false, if_true, if_false, Int.reduceEq, Int.reduceLT, Int.reduceLE, Int.reduceNeg]
        refine ih (t + 1) _ (by omega) (by omega) (fr.tr ((FrQ.row (by decide)).tr (FrQ.fld (Or.inl rfl)))) ?_
        rw [e]
        refine ⟨by omega, by rw [qsi_self]; exact zI_congr (by omega), fun i hi => ?_⟩
        rw [qsi_ne (by simp), qsi_get]
        by_cases q : i = (t + 6 - N0) / 7
        · rw [if_pos ⟨rfl, q⟩, q, hx, hx2]
          exact ⟨by omega, rfl⟩
        · rw [if_neg (by simp [q])]
          exact p3 i (by omega)
      clear ih
      rw [qb_M_findNeeds_10, hR.day]
      simp (disch := omega) only [zI_of, zI_0, zI_1, zI_add, zI_sub, zI_mul, zI_neg, zI_lt, zI_le, zI_eq, zI_rem, zI_oob, zI_ixN, zI_ix, zI_ite, zI10, zI01, Int.toNat_natCast, cond_false, cond_true, q01_0, q01_1, q01_0z, q01_1z, qB_if, qB_ifz, qB_ret, qB_retz, qbI_some, qbV_some, qbL_some, qbR_some, qbN_some, qbN_none, true_or, or_true, false_or, or_false, if_true, if_false, Int.reduceEq, Int.reduceLT, Int.reduceLE, Int.reduceNeg, hR.wd hw, hR.je hw]
      rw [if_neg (show ¬ (n : Int) < t by omega)]
      by_cases c1 : t % 7 = aP s w 0
      · rw [if_pos (by omega)]
        by_cases c2 : t = aD s
        · rw [if_pos (by omega)]
          by_cases c3 : aP s w 4 = 1
          · rw [if_pos (by omega)]
            exact skip (by omega)
          · rw [if_neg (by omega)]
            exact take (by omega) (by omega) (by omega)
        · rw [if_neg (by omega)]
          exact take (by omega) (by omega) (by omega)
      · rw [if_neg (by omega)]
        exact skip (by omega)
  rw [qe_M_findNeeds, qb_M_findNeeds_0, zI_of, qsi_get, if_neg (by simp), h.day]
  refine L (n + 1 - aD s) (aD s) _ (by omega) (Nat.le_refl _) (FrQ.fld (Or.inl rfl)) ?_
  have e : (aD s + 6 - N0) / 7 = 0 := by omega
  rw [e]
  exact ⟨by omega, qsi_self _ _ _ _, fun i hi => absurd hi (by omega)⟩
/-- good on some of the days -/
def anyB (P : Nat → Bool) : Nat → Bool
  | 0 => false
  | n + 1 => anyB P n || P n
theorem anyB_of {P : Nat → Bool} {i : Nat} : ∀ n, i < n → P i = true → anyB P n = true
  | 0, h, _ => absurd h (by omega)
  | n + 1, h, hp => by
    show (anyB P n || P n) = true
    by_cases e : i = n
    · subst e; rw [hp, Bool.or_true]
    · rw [anyB_of n (by omega) hp]; rfl
/-- the causes that may be laid out -/
def ownS (s : AS) (w m : Nat) (D : Nat → Nat) : Nat := mk (fun c => decide (aC s c 2 = w) && (aX s c && anyB (fun i => aF s c (D i)) m)) (aN s)
theorem ownS_b {s : AS} {w m c : Nat} {D : Nat → Nat} (h : (ownS s w m D).testBit c = true) : c < aN s ∧ aC s c 2 = w ∧ aX s c = true := by
  unfold ownS at h
  rw [mk_bit] at h
  simp only [Bool.and_eq_true, decide_eq_true_eq] at h
  exact ⟨h.1, h.2.1, h.2.2.1⟩
theorem ownS_lt {s : AS} {w m : Nat} {D : Nat → Nat} (hn : aN s ≤ 12) : ownS s w m D < 4096 := Nat.lt_of_lt_of_le (mk_lt _ _) (show 2 ^ aN s ≤ 2 ^ 12 from Nat.pow_le_pow_right (by decide) hn)
theorem qB_or (a b : Bool) : qB a ||| qB b = qB (a || b) := by cases a <;> cases b <;> decide +kernel
theorem c_M_findOwn (d : Nat) {w m : Nat} {D : Nat → Nat} {s : AS} {μ : QM} (h : RM μ s) (ok : aOK s) (hw : w < 2) (hP : PDm μ m D) (hD : ∀ i, i < m → D i % 7 = aP s w 0) :
    ∃ μ', qcall qprogs (d + 4) 198 [qR (24, 0, 0), qI (zI (w : Nat))] μ = some (none, μ') ∧ FrQ μ μ' ∧ μ'.1 (24, 0, 0) 29 = zI (ownS s w m D : Nat) ∧ PDm μ' m D := by
  have h12 := ok.2.1
  obtain ⟨m12, p2, p3⟩ := hP
  have L : ∀ k c μ1, c + k = aN s → FrQ μ μ1 → PDm μ1 m D → μ1.1 (24, 0, 0) 29 = zI (mk (fun c => decide (aC s c 2 = w) && (aX s c && anyB (fun i => aF s c (D i)) m)) c : Nat) →
      ∃ μ', qx (d + 3) qc_M_findOwn 7 [some (qR (24, 0, 0)), some (qI (zI (w : Nat))), some (qI (zI (c : Nat))), none, none] [] μ1 = some (none, μ') ∧ FrQ μ μ' ∧ μ'.1 (24, 0, 0) 29 = zI (ownS s w m D : Nat) ∧ PDm μ' m D := by
    intro k
    induction k with
    | zero =>
      intro c μ1 hc fr hPD ho
      rw [qb_M_findOwn_7, (h.q fr).cnt]
      simp (disch := omega) only [zI_of, zI_0, zI_1, zI_add, zI_sub, zI_mul, zI_neg, zI_lt, zI_le, zI_eq, zI_rem, zI_oob, zI_ixN, zI_ix, zI_ite, zI10, zI01, Int.toNat_natCast, cond_false, cond_true, q01_0, q01_1, q01_0z, q01_1z, qB_if, qB_ifz, qB_ret, qB_retz, qbI_some, qbV_some, qbL_some, qbR_some, qbN_some, qbN_none, true_or, or_true, false_or, or_false, if_true, if_false, Int.reduceEq, Int.reduceLT, Int.reduceLE, Int.reduceNeg, qb_M_findOwn_95]
      rw [if_pos (by omega)]
      exact ⟨μ1, rfl, fr, by rw [ho, show c = aN s by omega]; rfl, hPD⟩
    | succ k ih =>
      intro c μ1 hc fr hPD ho
      have hcn : c < aN s := by omega
      have hR := h.q fr
      have b2 := (ok.c hcn).2.2.1
      have b4 := (ok.c hcn).2.2.2.2
      have lt := mk_lt (fun c => decide (aC s c 2 = w) && (aX s c && anyB (fun i => aF s c (D i)) m)) c
      have lt2 := p31 lt (by omega)
      have fin : ∀ b : Bool, b = (decide (aC s c 2 = w) && (aX s c && anyB (fun i => aF s c (D i)) m)) → ∃ μ', qx (d + 3) qc_M_findOwn 69 [some (qR (24, 0, 0)), some (qI (zI (w : Nat))), some (qI (zI (c : Nat))), some (qI (qB b)), none] [] μ1 = some (none, μ') ∧ FrQ μ μ' ∧ μ'.1 (24, 0, 0) 29 = zI (ownS s w m D : Nat) ∧ PDm μ' m D := fun b hb => by
        rw [qb_M_findOwn_69]
        cases b
        · simp (disch := omega) only [zI_of, zI_0, zI_1, zI_add, zI_sub, zI_mul, zI_neg, zI_lt, zI_le, zI_eq, zI_rem, zI_oob, zI_ixN, zI_ix, zI_ite, zI10, zI01, Int.toNat_natCast, cond_false, cond_true, q01_0, q01_1, q01_0z, q01_1z, qB_if, qB_ifz, qB_ret, qB_retz, qbI_some, qbV_some, qbL_some, qbR_some, qbN_some, qbN_none, true_or, or_true, false_or, or_false, if_true, if_false, Int.reduceEq, Int.reduceLT, Int.reduceLE, Int.reduceNeg, qb_M_findOwn_84, qb_M_findOwn_85, ho]
          rw [show zI (mk (fun c => decide (aC s c 2 = w) && (aX s c && anyB (fun i => aF s c (D i)) m)) c : Nat) ||| zI 0 = zI (mk (fun c => decide (aC s c 2 = w) && (aX s c && anyB (fun i => aF s c (D i)) m)) (c + 1) : Nat) by
            rw [mk_f hb.symm, show zI (0 : Int) = zI ((0 : Nat) : Int) from rfl, zI_or, Nat.or_zero]]
          exact ih (c + 1) _ (by omega) (fr.tr (FrQ.fld (Or.inr rfl))) (hPD.congr (by rw [qsi_get, if_neg (by simp)]) (by rw [qsi_ne (by simp)])) (qsi_self _ _ _ _)
        · simp (disch := omega) only [zI_of, zI_0, zI_1, zI_add, zI_sub, zI_mul, zI_neg, zI_lt, zI_le, zI_eq, zI_rem, zI_oob, zI_ixN, zI_ix, zI_ite, zI10, zI01, Int.toNat_natCast, cond_false, cond_true, q01_0, q01_1, q01_0z, q01_1z, qB_if, qB_ifz, qB_ret, qB_retz, qbI_some, qbV_some, qbL_some, qbR_some, qbN_some, qbN_none, true_or, or_true, false_or, or_false, if_true, if_false, Int.reduceEq, Int.reduceLT, Int.reduceLE, Int.reduceNeg, qb_M_findOwn_85, ho, zI_31, zI_bit, zI_or, mk_or]
          rw [← mk_t (p := fun c => decide (aC s c 2 = w) && (aX s c && anyB (fun i => aF s c (D i)) m)) hb.symm]
          exact ih (c + 1) _ (by omega) (fr.tr (FrQ.fld (Or.inr rfl))) (hPD.congr (by rw [qsi_get, if_neg (by simp)]) (by rw [qsi_ne (by simp)])) (qsi_self _ _ _ _)
      have L2 : ∀ r i, i + r = m → aC s c 2 = w → aX s c = true → ∃ μ', qx (d + 3) qc_M_findOwn 20 [some (qR (24, 0, 0)), some (qI (zI (w : Nat))), some (qI (zI (c : Nat))), some (qI (qB (anyB (fun i => aF s c (D i)) i))), some (qI (zI (i : Nat)))] [] μ1 = some (none, μ') ∧ FrQ μ μ' ∧ μ'.1 (24, 0, 0) 29 = zI (ownS s w m D : Nat) ∧ PDm μ' m D := by
        intro r
        induction r with
        | zero =>
          intro i hi hw2 hx
          rw [qb_M_findOwn_20, hPD.2.1]
          simp (disch := omega) only [zI_of, zI_0, zI_1, zI_add, zI_sub, zI_mul, zI_neg, zI_lt, zI_le, zI_eq, zI_rem, zI_oob, zI_ixN, zI_ix, zI_ite, zI10, zI01, Int.toNat_natCast, cond_false, cond_true, q01_0, q01_1, q01_0z, q01_1z, qB_if, qB_ifz, qB_ret, qB_retz, qbI_some, qbV_some, qbL_some, qbR_some, qbN_some, qbN_none, true_or, or_true, false_or, or_false, if_true, if_false, Int.reduceEq, Int.reduceLT, Int.reduceLE, Int.reduceNeg]
          rw [if_pos (by omega)]
          exact fin _ (by rw [hw2, hx, show i = m by omega]; simp)
        | succ r ih2 =>
          intro i hi hw2 hx
          obtain ⟨q1, q2⟩ := hPD.2.2 i (by omega)
          have hx0 : aC s c 4 = 0 := by unfold aX at hx; simpa using hx
          have i1 := ih2 (i + 1) (by omega) hw2 hx
          rw [qb_M_findOwn_20, hPD.2.1]
          simp (disch := omega) only [zI_of, zI_0, zI_1, zI_add, zI_sub, zI_mul, zI_neg, zI_lt, zI_le, zI_eq, zI_rem, zI_oob, zI_ixN, zI_ix, zI_ite, zI10, zI01, Int.toNat_natCast, cond_false, cond_true, q01_0, q01_1, q01_0z, q01_1z, qB_if, qB_ifz, qB_ret, qB_retz, qbI_some, qbV_some, qbL_some, qbR_some, qbN_some, qbN_none, true_or, or_true, false_or, or_false, if_true, if_false, Int.reduceEq, Int.reduceLT, Int.reduceLE, Int.reduceNeg, hR.wh hcn, hR.us hcn, q2, c_M_isGood d hR ok hcn q1, qB_or]
          rw [if_neg (by omega), if_pos (by omega), if_pos (by omega), aG_wd hw2 (hD i (by omega))]
          exact i1
      rw [qb_M_findOwn_7, hR.cnt]
      simp (disch := omega) only [zI_of, zI_0, zI_1, zI_add, zI_sub, zI_mul, zI_neg, zI_lt, zI_le, zI_eq, zI_rem, zI_oob, zI_ixN, zI_ix, zI_ite, zI10, zI01, Int.toNat_natCast, cond_false, cond_true, q01_0, q01_1, q01_0z, q01_1z, qB_if, qB_ifz, qB_ret, qB_retz, qbI_some, qbV_some, qbL_some, qbR_some, qbN_some, qbN_none, true_or, or_true, false_or, or_false, if_true, if_false, Int.reduceEq, Int.reduceLT, Int.reduceLE, Int.reduceNeg]
      rw [if_neg (by omega)]
      by_cases hw2 : aC s c 2 = w
      · by_cases hx : aX s c = true
        · exact L2 m 0 (by omega) hw2 hx
        · have hx0 : ¬ aC s c 4 = 0 := by unfold aX at hx; simpa using hx
          rw [qb_M_findOwn_20, hPD.2.1]
          simp (disch := omega) only [zI_of, zI_0, zI_1, zI_add, zI_sub, zI_mul, zI_neg, zI_lt, zI_le, zI_eq, zI_rem, zI_oob, zI_ixN, zI_ix, zI_ite, zI10, zI01, Int.toNat_natCast, cond_false, cond_true, q01_0, q01_1, q01_0z, q01_1z, qB_if, qB_ifz, qB_ret, qB_retz, qbI_some, qbV_some, qbL_some, qbR_some, qbN_some, qbN_none, true_or, or_true, false_or, or_false, if_true, if_false, Int.reduceEq, Int.reduceLT, Int.reduceLE, Int.reduceNeg, hR.wh hcn, hR.us hcn]
          by_cases z : (m : Int) ≤ 0
          · rw [if_pos z]
            exact fin false (by simp [hx])
          · rw [if_neg z, if_pos (by omega), if_neg (by omega)]
            exact fin false (by simp [hx])
      · rw [qb_M_findOwn_20, hPD.2.1]
        simp (disch := omega) only [zI_of, zI_0, zI_1, zI_add, zI_sub, zI_mul, zI_neg, zI_lt, zI_le, zI_eq, zI_rem, zI_oob, zI_ixN, zI_ix, zI_ite, zI10, zI01, Int.toNat_natCast, cond_false, cond_true, q01_0, q01_1, q01_0z, q01_1z, qB_if, qB_ifz, qB_ret, qB_retz, qbI_some, qbV_some, qbL_some, qbR_some, qbN_some, qbN_none, true_or, or_true, false_or, or_false, if_true, if_false, Int.reduceEq, Int.reduceLT, Int.reduceLE, Int.reduceNeg, hR.wh hcn]
        by_cases z : (m : Int) ≤ 0
        · rw [if_pos z]
          exact fin false (by simp [hw2])
        · rw [if_neg z, if_neg (by omega)]
          exact fin false (by simp [hw2])
  rw [qe_M_findOwn, qb_M_findOwn_0]
  simp only [zI_of]
  exact L (aN s) 0 _ (by omega) (FrQ.fld (Or.inr rfl)) (PDm.congr (⟨m12, p2, p3⟩ : PDm μ m D) (by rw [qsi_get, if_neg (by simp)]) (by rw [qsi_ne (by simp)])) (qsi_self _ _ _ _)
/-! subsets, from the greatest down -/
theorem and_2 (x y : Nat) : x &&& y = 2 * (x / 2 &&& y / 2) + (if x % 2 = 1 ∧ y % 2 = 1 then 1 else 0) := by
  have h1 : (x &&& y) / 2 = x / 2 &&& y / 2 := Nat.and_div_two
  have h2 : (x &&& y) % 2 = 1 ↔ x % 2 = 1 ∧ y % 2 = 1 := Nat.and_mod_two_eq_one
  by_cases e : x % 2 = 1 ∧ y % 2 = 1
  · rw [if_pos e]
    have := h2.mpr e
    omega
  · rw [if_neg e]
    have : ¬ (x &&& y) % 2 = 1 := fun z => e (h2.mp z)
    omega
theorem sub_next : ∀ (n A S T : Nat), A < n → S &&& A = S → T &&& A = T → T < S → T ≤ (S - 1) &&& A
  | 0, _, _, _, h, _, _, _ => absurd h (by omega)
  | n + 1, A, S, T, hA, hS, hT, hlt => by
    have s1 := and_2 S A
    have t1 := and_2 T A
    rw [hS] at s1
    rw [hT] at t1
    rw [and_2 (S - 1) A]
    have s2 : S / 2 &&& A / 2 = S / 2 := by split at s1 <;> omega
    have t2 : T / 2 &&& A / 2 = T / 2 := by split at t1 <;> omega
    have s3 : S % 2 = 1 → A % 2 = 1 := fun h => by
      split at s1
      · omega
      · omega
    have t3 : T % 2 = 1 → A % 2 = 1 := fun h => by
      split at t1
      · omega
      · omega
    by_cases p : S % 2 = 1
    · have e : (S - 1) / 2 = S / 2 := by omega
      rw [e, s2]
      split <;> omega
    · have e : (S - 1) / 2 = S / 2 - 1 := by omega
      have hA0 : A / 2 < n := by
        by_cases z : A = 0
        · rw [z, Nat.and_zero] at hS
          omega
        · omega
      have := sub_next n (A / 2) (S / 2) (T / 2) hA0 s2 t2 (by omega)
      rw [e]
      split <;> omega
theorem and_sub (x A : Nat) : (x &&& A) &&& A = x &&& A := by rw [Nat.and_assoc, Nat.and_self]
theorem sub_bit {S A : Nat} (h : S &&& A = S) {c : Nat} (hc : S.testBit c = true) : A.testBit c = true := by
  rw [← h, Nat.testBit_and, Bool.and_eq_true] at hc
  exact hc.2
theorem sub_of {S A : Nat} (h : ∀ c, S.testBit c = true → A.testBit c = true) : S &&& A = S := by
  apply Nat.eq_of_testBit_eq
  intro i
  rw [Nat.testBit_and]
  cases hs : S.testBit i
  · rfl
  · rw [h i hs]; rfl
