/-! the class's plans: days and causes -/
def isPl (w : Nat) (a : QA) : Prop := 5 ≤ a.1 ∧ a.1 ≤ 12 ∧ a.2.1 = w
theorem isPl_of {t p c : Nat} (h : 5 ≤ t ∧ t ≤ 12) : isPl p (t, p, c) := ⟨h.1, h.2, rfl⟩
def PD (μ : QM) (p m : Nat) (D : Nat → Nat) : Prop := m ≤ 12 ∧ μ.1 (5, p, 0) 1 = zI (m : Nat) ∧ ∀ i, i < m → D i ≤ 1000 ∧ μ.1 (7, p, 0) i = zI (D i : Nat)
def PN (μ : QM) (p : Nat) : Prop := ∀ c, c < 12 → μ.1 (6, p, c) 0 = zI (c : Nat)
/-- the places of the days on which a cause is fresh -/
def gdB (s : AS) (m : Nat) (D : Nat → Nat) (c : Nat) : Nat := mk (fun i => aF s c (D i)) m
def PC (μ : QM) (p : Nat) (s : AS) (m : Nat) (D : Nat → Nat) (S : Nat) : Prop := S < 4096 ∧ μ.1 (5, p, 0) 5 = zI (S : Nat) ∧ ∀ c, S.testBit c = true → c < 12 ∧ μ.1 (6, p, c) 1 = zI (aW s c : Nat) ∧ μ.1 (6, p, c) 2 = zI (aT s c : Nat) ∧ μ.1 (6, p, c) 3 = zI (gdB s m D c : Nat)
def PQ (μ : QM) (p : Nat) (Q : List Nat) : Prop := Q.length ≤ 12 ∧ μ.1 (5, p, 0) 4 = zI (Q.length : Nat) ∧ ∀ i, i < Q.length → μ.2.2 (9, p, 0) i = some (6, p, Q.getD i 0)
def Qok (f : Nat → Nat) (S : Nat) (Q : List Nat) : Prop := Q.Nodup ∧ (∀ c, c ∈ Q ↔ S.testBit c = true) ∧ Q.Pairwise (fun a b => f b < f a ∨ (f b = f a ∧ b < a))
theorem c_Plan_takeDay (d : Nat) {p m x : Nat} {D : Nat → Nat} {μ : QM} (hp : p < 2) (h : PD μ p m D) (hm : m < 12) (hx : D m = x) (hx2 : x ≤ 1000) :
    ∃ μ', qcall qprogs (d + 1) 28 [qR (5, p, 0), qI (zI x)] μ = some (none, μ') ∧ Fr (isPl p) μ μ' ∧ PD μ' p (m + 1) D ∧ (PN μ p → PN μ' p) := by
  obtain ⟨h1, h2, h3⟩ := h
  rw [qe_Plan_takeDay (h0 := qd5 hp), qb_Plan_takeDay_0, h2]
  simp (disch := omega) only [zI_of, zI_0, zI_1, zI_add, zI_sub, zI_mul, zI_neg, zI_lt, zI_le, zI_eq, zI_rem, zI_oob, zI_ixN, zI_ix, zI_ite, zI10, zI01, Int.toNat_natCast, cond_false, cond_true, q01_0, q01_1, q01_0z, q01_1z, qB_if, qB_ifz, qB_ret, qB_retz, qbI_some, qbV_some, qbL_some, qbR_some, qbN_some, qbN_none, true_or, or_true, false_or, or_false, if_true, if_false, Int.reduceEq, Int.reduceLT, Int.reduceLE, Int.reduceNeg, qb_Plan_takeDay_36]
  rw [if_neg (by omega), if_neg (by omega)]
  refine ⟨_, rfl, Fr.si' (Fr.si (show isPl p (7, p, 0) from isPl_of (by decide))) (show isPl p (5, p, 0) from isPl_of (by decide)), ⟨by omega, ?_, fun i hi => ?_⟩, fun hN c hc => ?_⟩
  · rw [qsi_self, qsi_ne (by simp), h2, zI_add]; rfl
  · rw [qsi_ne (by simp), qsi_get]
    by_cases e : i = m
    · subst e
      rw [if_pos ⟨rfl, rfl⟩, hx]
      exact ⟨hx2, rfl⟩
    · rw [if_neg (by simp [e])]
      exact h3 i (by omega)
  · rw [qsi_ne (by simp), qsi_ne (by simp)]
    exact hN c hc
/-- the days that one needs: the first, how many up to a day -/
def n0 (s : AS) (w wd : Nat) : Nat := aD s + aP s w 4 + (wd + 7 - (aD s + aP s w 4) % 7) % 7
def nD (s : AS) (w wd i : Nat) : Nat := n0 s w wd + 7 * i
def nM (s : AS) (w wd n : Nat) : Nat := (n + 7 - n0 s w wd) / 7
theorem c_Plan_takeNeeded (d : Nat) {p j w wd n : Nat} {s : AS} {μ : QM} (hp : p < 2) (hj : j < 11) (h : RA μ j s) (ok : aOK s) (hw : w < 2) (hwd : wd ≤ 6) (hn : aD s ≤ n) (hn2 : n ≤ 83) (hN : PN μ p) :
    ∃ μ', qcall qprogs (d + 2) 26 [qR (5, p, 0), qR (2, j, 0), qI (zI w), qI (zI wd), qI (zI n)] μ = some (none, μ') ∧ Fr (isPl p) μ μ' ∧ PD μ' p (nM s w wd n) (nD s w wd) ∧ PN μ' p := by
  have b4 := (ok.p hw).2.2.2.2
  have bD := ok.1
  have hA : ∀ a, isA j a → ¬ isPl p a := fun a h1 h2 => by rcases h1.1 with e | e | e <;> have := h2.1 <;> omega
  obtain ⟨N0, hN0⟩ : ∃ x, n0 s w wd = x := ⟨_, rfl⟩
  have hN1 : aD s + aP s w 4 ≤ N0 ∧ N0 ≤ aD s + aP s w 4 + 6 ∧ N0 % 7 = wd := by rw [← hN0]; unfold n0; omega
  have L : ∀ k t μ1, t + k = n + 1 → aD s ≤ t → RA μ1 j s → PN μ1 p → PD μ1 p ((t + 6 - N0) / 7) (nD s w wd) →
      ∃ μ', qx (d + 1) qc_Plan_takeNeeded 21 [some (qR (5, p, 0)), some (qR (2, j, 0)), none, some (qI (zI wd)), some (qI (zI n)), some (qI (zI (aP s w 4 : Nat))), some (qI (zI (t : Nat))), none] [] μ1 = some (none, μ') ∧ Fr (isPl p) μ1 μ' ∧ PD μ' p (nM s w wd n) (nD s w wd) ∧ PN μ' p := by
    intro k
    induction k with
    | zero =>
      intro t μ1 ht _ _ hN hPD
      rw [qb_Plan_takeNeeded_21]
      simp (disch := omega) only [zI_of, zI_0, zI_1, zI_add, zI_sub, zI_mul, zI_neg, zI_lt, zI_le, zI_eq, zI_rem, zI_oob, zI_ixN, zI_ix, zI_ite, zI10, zI01, Int.toNat_natCast, cond_false, cond_true, q01_0, q01_1, q01_0z, q01_1z, qB_if, qB_ifz, qB_ret, qB_retz, qbI_some, qbV_some, qbL_some, qbR_some, qbN_some, qbN_none, true_or, or_true, false_or, or_false, if_true, if_false, Int.reduceEq, Int.reduceLT, Int.reduceLE, Int.reduceNeg, qb_Plan_takeNeeded_75]
      rw [if_pos (by omega)]
      refine ⟨_, rfl, Fr.rf, ?_, hN⟩
      have e : nM s w wd n = (t + 6 - N0) / 7 := by unfold nM; rw [hN0]; congr 1; omega
      rw [e]
      exact hPD
    | succ k ih =>
      intro t μ1 ht hDt hR hN hPD
      have hx : nD s w wd ((t + 6 - N0) / 7) = N0 + 7 * ((t + 6 - N0) / 7) := by unfold nD; rw [hN0]
      have skip : (t + 1 + 6 - N0) / 7 = (t + 6 - N0) / 7 → ∃ μ', qx (d + 1) qc_Plan_takeNeeded 21 [some (qR (5, p, 0)), some (qR (2, j, 0)), none, some (qI (zI wd)), some (qI (zI n)), some (qI (zI (aP s w 4 : Nat))), some (qI (zI ((t : Nat) + 1 : Int))), none] [] μ1 = some (none, μ') ∧ Fr (isPl p) μ1 μ' ∧ PD μ' p (nM s w wd n) (nD s w wd) ∧ PN μ' p := fun e =>
        ih (t + 1) μ1 (by omega) (by omega) hR hN (by rw [e]; exact hPD)
      have take : (t + 1 + 6 - N0) / 7 = (t + 6 - N0) / 7 + 1 → (t + 6 - N0) / 7 < 12 → N0 + 7 * ((t + 6 - N0) / 7) = t → ∃ μ', qbV (qcall qprogs (d + 1) 28 [qR (5, p, 0), qI (zI (t : Nat))] μ1) (fun μ1 => qx (d + 1) qc_Plan_takeNeeded 21 [some (qR (5, p, 0)), some (qR (2, j, 0)), none, some (qI (zI wd)), some (qI (zI n)), some (qI (zI (aP s w 4 : Nat))), some (qI (zI ((t : Nat) + 1 : Int))), none] [] μ1) = some (none, μ') ∧ Fr (isPl p) μ1 μ' ∧ PD μ' p (nM s w wd n) (nD s w wd) ∧ PN μ' p := fun e hl hx2 => by
        obtain ⟨μ2, q1, q2, q3, q4⟩ := c_Plan_takeDay d (x := t) hp hPD hl (hx.trans hx2) (by omega)
        obtain ⟨μ3, r1, r2, r3⟩ := ih (t + 1) μ2 (by omega) (by omega) (hR.fr q2 hA) (q4 hN) (by rw [e]; exact q3)
        rw [q1, qbV_some]
        exact ⟨μ3, r1, q2.tr r2, r3⟩
      clear ih
      rw [qb_Plan_takeNeeded_21, hR.day]
      simp (disch := omega) only [zI_of, zI_0, zI_1, zI_add, zI_sub, zI_mul, zI_neg, zI_lt, zI_le, zI_eq, zI_rem, zI_oob, zI_ixN, zI_ix, zI_ite, zI10, zI01, Int.toNat_natCast, cond_false, cond_true, q01_0, q01_1, q01_0z, q01_1z, qB_if, qB_ifz, qB_ret, qB_retz, qbI_some, qbV_some, qbL_some, qbR_some, qbN_some, qbN_none, true_or, or_true, false_or, or_false, if_true, if_false, Int.reduceEq, Int.reduceLT, Int.reduceLE, Int.reduceNeg, qb_Plan_takeNeeded_46, qb_Plan_takeNeeded_47, qb_Plan_takeNeeded_69]
      rw [if_neg (show ¬ (n : Int) < t by omega)]
      by_cases c3 : aP s w 4 = 0
      · rw [if_pos (by omega)]
        by_cases c1 : t % 7 = wd
        · rw [if_pos (by omega)]
          exact take (by omega) (by omega) (by omega)
        · rw [if_neg (by omega)]
          exact skip (by omega)
      · rw [if_neg (by omega)]
        by_cases c2 : t = aD s
        · rw [if_pos (by omega)]
          have := skip (by omega)
          split <;> exact this
        · rw [if_neg (by omega)]
          by_cases c1 : t % 7 = wd
          · rw [if_pos (by omega)]
            exact take (by omega) (by omega) (by omega)
          · rw [if_neg (by omega)]
            exact skip (by omega)
  obtain ⟨μ', r1, r2, r3⟩ := L (n + 1 - aD s) (aD s) (qsi μ (5, p, 0) 1 (zI 0)) (by omega) (Nat.le_refl _) (h.fr (Fr.si (show isPl p (5, p, 0) from isPl_of (by decide))) hA) (fun c hc => by rw [qsi_ne (by simp)]; exact hN c hc) (by
    have e : (aD s + 6 - N0) / 7 = 0 := by omega
    rw [e]
    exact ⟨by omega, qsi_self _ _ _ _, fun i hi => absurd hi (by omega)⟩)
  refine ⟨μ', ?_, (Fr.si (show isPl p (5, p, 0) from isPl_of (by decide))).tr r2, r3⟩
  rw [qe_Plan_takeNeeded (h0 := qd5 hp) (h1 := qd2 hj), qb_Plan_takeNeeded_0, c_Affair_person (d) hj hw, qbR_some (qd3 hj hw), h.p 4 hw, qbz_z b4]
  simp (disch := omega) only [zI_of, zI_0, zI_1, zI_add, zI_sub, zI_mul, zI_neg, zI_lt, zI_le, zI_eq, zI_rem, zI_oob, zI_ixN, zI_ix, zI_ite, zI10, zI01, Int.toNat_natCast, cond_false, cond_true, q01_0, q01_1, q01_0z, q01_1z, qB_if, qB_ifz, qB_ret, qB_retz, qbI_some, qbV_some, qbL_some, qbR_some, qbN_some, qbN_none, true_or, or_true, false_or, or_false, if_true, if_false, Int.reduceEq, Int.reduceLT, Int.reduceLE, Int.reduceNeg, qsi_ne (show ((2, j, 0) : QA) ≠ (5, p, 0) by simp), h.day]
  exact r1
