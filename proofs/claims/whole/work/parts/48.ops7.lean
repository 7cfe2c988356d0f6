section
/-! over, swapped, run, usedOn, heavyDay -/
def lgd (s : AS) : Nat → Int
  | 0 => -9
  | k + 1 => if anyG s (aD s + k) (aN s) = true then (aD s + k : Nat) else lgd s k
theorem lgd_s (s : AS) (k : Nat) : lgd s (k + 1) = if anyG s (aD s + k) (aN s) = true then ((aD s + k : Nat) : Int) else lgd s k := rfl
theorem lgd_b (s : AS) : ∀ k, lgd s k = -9 ∨ ((aD s : Int) ≤ lgd s k ∧ lgd s k < aD s + k)
  | 0 => Or.inl rfl
  | k + 1 => by
    rw [lgd_s]
    split
    · right; omega
    · rcases lgd_b s k with h | h
      · exact Or.inl h
      · right; omega
theorem c_M_lastGood (d : Nat) {s : AS} {μ : QM} (h : RM μ s) (ok : aOK s) : qcall qprogs (d + 4) 245 [qR (24, 0, 0)] μ = some (some (qI (zI (lgd s (84 - aD s)))), μ) := by
  have n12 := ok.2.1
  have b83 := ok.1
  have L2 : ∀ k c (x : Nat) (v : Int), x ≤ 83 → c + k = aN s → qx (d + 3) qc_M_lastGood 16 [some (qR (24, 0, 0)), some (qI (zI (if anyG s x c = true then (x : Int) else v))), some (qI (zI (x : Nat))), some (qI (zI (c : Nat)))] [] μ = qx (d + 3) qc_M_lastGood 54 [some (qR (24, 0, 0)), some (qI (zI (if anyG s x (aN s) = true then (x : Int) else v))), some (qI (zI (x : Nat))), none] [] μ := by
    intro k
    induction k with
    | zero =>
      intro c x v hx hc
      rw [qb_M_lastGood_16, h.cnt, if_pos (by rw [zI_le (by omega)]; omega), show c = aN s by omega]
    | succ k ih =>
      intro c x v hx hc
      have hcn : c < aN s := by omega
      have b4 := (ok.c hcn).2.2.2.2
      have i1 := ih (c + 1) x v hx (by omega)
      have e : anyG s x (c + 1) = (anyG s x c || (aX s c && aG s c x)) := rfl
      have skip : (aX s c && aG s c x) = false → qx (d + 3) qc_M_lastGood 46 [some (qR (24, 0, 0)), some (qI (zI (if anyG s x c = true then (x : Int) else v))), some (qI (zI (x : Nat))), some (qI (zI (c : Nat)))] [] μ = qx (d + 3) qc_M_lastGood 54 [some (qR (24, 0, 0)), some (qI (zI (if anyG s x (aN s) = true then (x : Int) else v))), some (qI (zI (x : Nat))), none] [] μ := fun hb => by
        rw [e, hb, Bool.or_false] at i1
        rw [qb_M_lastGood_46, qb_M_lastGood_47, zI_of, zI_add]
        exact i1
      rw [qb_M_lastGood_16, h.cnt, if_neg (by rw [zI_le (by omega)]; omega), zI_oob (n := 12) (by omega), cond_false, show qix (zI (c : Nat)) = c from zI_ixN (by omega), h.us hcn]
      by_cases h1 : aC s c 4 = 0
      · have ex : aX s c = true := by simp [aX, h1]
        rw [if_pos (by rw [h1]; exact zI0), c_M_isGood d h ok hcn (show x ≤ 1000 by omega), qbI_some, qB_if]
        cases hg : aG s c x
        · rw [cond_false]
          exact skip (by rw [hg, Bool.and_false])
        · rw [e, ex, hg, Bool.and_self, Bool.or_true, if_pos rfl] at i1
          rw [cond_true, qb_M_lastGood_47, zI_of, zI_add]
          exact i1
      · rw [if_neg (by rw [zI_0, zI_eq (by omega)]; omega)]
        exact skip (by simp [aX, h1])
  have L : ∀ r k, aD s + k + r = 84 → qx (d + 3) qc_M_lastGood 8 [some (qR (24, 0, 0)), some (qI (zI (lgd s k))), some (qI (zI ((aD s + k : Nat) : Int))), none] [] μ = some (some (qI (zI (lgd s (84 - aD s)))), μ) := by
    intro r
    induction r with
    | zero =>
      intro k hk
      rw [qb_M_lastGood_8, zI_of, if_pos (by rw [zI_lt (by omega)]; omega), qb_M_lastGood_60, show k = 84 - aD s by omega]
    | succ r ih =>
      intro k hk
      have i1 := ih (k + 1) (by omega)
      rw [lgd_s] at i1
      have i2 := L2 (aN s) 0 (aD s + k) (lgd s k) (by omega) (by omega)
      rw [show anyG s (aD s + k) 0 = false from rfl, if_neg (by decide)] at i2
      rw [qb_M_lastGood_8, zI_of, if_neg (by rw [zI_lt (by omega)]; omega), zI_of]
      refine Eq.trans i2 ?_
      rw [qb_M_lastGood_54, zI_of, zI_add]
      exact i1
  have l0 := L (84 - aD s) 0 (by omega)
  rw [qe_M_lastGood, qb_M_lastGood_0, h.day, zI_of]
  exact l0
theorem op_over {σ : GS} (ok : GOK σ) {z1 : Int} (h1 : iB z1) : OP 95 246 [qI (zI z1)] σ := by
  have b1 := h1.1
  have b2 := h1.2
  have bD := ok.1.1
  have l := lgd_b (gS σ) (84 - aD (gS σ))
  by_cases hz : 0 ≤ z1 ∧ z1 ≤ 1
  · refine ⟨qI (zI (if z1 = 1 then lgd (gS σ) (84 - aD (gS σ)) else if lgd (gS σ) (84 - aD (gS σ)) < 0 then (aD (gS σ) : Int) else lgd (gS σ) (84 - aD (gS σ)) + 1)), σ, fun d μ h => ⟨μ, ?_, h, Fr.rf⟩, fun d μ h => ⟨μ, ?_, h, Fr.rf⟩, ok⟩
    · have e16 : qcall qprogs (d + 30) 95 [qR (0, 0, 0), qI (zI z1)] μ = qx (d + 29) qc_J_over 16 [some (qR (0, 0, 0)), some (qI (zI z1)), none] [] μ := by
        rw [qe_J_over, qb_J_over_0]
        simp (disch := omega) only [zI_of, zI_0, zI_1, zI_add, zI_sub, zI_mul, zI_neg, zI_lt, zI_le, zI_eq, zI_rem, zI_oob, zI_ixN, zI_ix, zI_ite, zI10, zI01, Int.toNat_natCast, cond_false, cond_true, q01_0, q01_1, q01_0z, q01_1z, qB_if, qB_ifz, qB_ret, qB_retz, qbI_some, qbV_some, qbL_some, qbR_some, qbN_some, qbN_none, true_or, or_true, false_or, or_false, if_true, if_false, Int.reduceEq, Int.reduceLT, Int.reduceLE, Int.reduceNeg]
        by_cases e : z1 = 0
        · rw [if_pos e]
        · rw [if_neg e, if_pos (by omega)]
      have L : ∀ k, aD (gS σ) + k ≤ 84 → qx (d + 29) qc_J_over 19 [some (qR (0, 0, 0)), some (qI (zI z1)), some (qI (zI ((aD (gS σ) + k : Nat) - 1 : Int)))] [] μ = qx (d + 29) qc_J_over 47 [some (qR (0, 0, 0)), some (qI (zI z1)), some (qI (zI (if lgd (gS σ) k < 0 then (aD (gS σ) : Int) - 1 else lgd (gS σ) k)))] [] μ := by
        intro k
        induction k with
        | zero =>
          intro _
          rw [qb_J_over_19, h.1.1.day, if_pos (by rw [zI_lt (by omega)]; omega), show lgd (gS σ) 0 = -9 from rfl, if_pos (by decide)]
          rfl
        | succ k ih =>
          intro hk
          rw [qb_J_over_19, h.1.1.day, show (((aD (gS σ) + (k + 1) : Nat) : Int) - 1) = (aD (gS σ) + k : Nat) by omega, if_neg (by rw [zI_lt (by omega)]; omega), c_Affair_hasGoodOn (d + 26) (show 0 < 11 by decide) h.1.1 ok.1 (by omega), qbI_some, qB_if, lgd_s]
          cases anyG (gS σ) (aD (gS σ) + k) (aN (gS σ))
          · rw [cond_false, if_neg (show ¬ false = true by decide), zI_of, zI_add]
            exact ih (by omega)
          · rw [cond_true, if_pos rfl, if_neg (by omega)]
      have l2 := L (84 - aD (gS σ)) (by omega)
      rw [show aD (gS σ) + (84 - aD (gS σ)) = 84 by omega, show (((84 : Nat) : Int) - 1) = 83 from rfl] at l2
      rw [e16, qb_J_over_16, zI_of, l2, qb_J_over_47]
      generalize lgd (gS σ) (84 - aD (gS σ)) = v at *
      by_cases e : z1 = 0
      · rw [if_pos (show zI z1 = 0 by rw [e]; exact zI0), if_neg (show ¬ z1 = 1 by omega), zI_of, zI_add]
        refine q_ret ?_
        split <;> omega
      · rw [if_neg (show ¬ zI z1 = 0 by rw [zI_0, zI_eq (by omega)]; exact e), if_pos (show z1 = 1 by omega), qb_J_over_55, h.1.1.day]
        by_cases e2 : v < 0
        · rw [if_pos e2, if_neg (by rw [zI_le (by omega)]; omega), zI_of, qb_J_over_72]
          refine q_ret ?_
          omega
        · rw [if_neg e2, if_pos (by rw [zI_le (by omega)]; omega), qb_J_over_71, qb_J_over_72]
    · rw [qe_M_over, qb_M_over_0]
      simp only [zI_of]
      rw [c_M_isIn (d + 28) (by omega), qbI_some, show (decide ((0 : Int) ≤ z1) && decide (z1 ≤ 1)) = true by simp [hz], if_neg (by decide), qb_M_over_16, c_M_lastGood (d + 25) h.1 ok.1, qbI_some, zI_of]
      generalize lgd (gS σ) (84 - aD (gS σ)) = v at *
      by_cases e : z1 = 1
      · rw [if_pos (show zI z1 = zI 1 by rw [e]), if_pos e, qb_M_over_44]
      · rw [if_neg (by rw [zI_eq (by omega)]; exact e), if_neg e, qb_M_over_30, h.1.day]
        by_cases e2 : v < 0
        · rw [if_pos e2, if_neg (by rw [zI_0, zI_le (by omega)]; omega), qb_M_over_44]
        · rw [if_neg e2, if_pos (by rw [zI_0, zI_le (by omega)]; omega), qb_M_over_41, zI_of, zI_add, qb_M_over_44]
  · refine ⟨qI (zI (-2)), refS σ 2, fun d μ h => ?_, fun d μ h => ?_, ok.ref⟩
    · rw [qe_J_over, qb_J_over_0]
      simp only [zI_of]
      rw [if_neg (by rw [zI_0, zI_eq (by omega)]; omega), if_neg (by rw [zI_eq (by omega)]; omega)]
      exact j_ref1 (d := d + 28) (f := -2) h (by decide)
    · rw [qe_M_over, qb_M_over_0]
      simp only [zI_of]
      rw [c_M_isIn (d + 28) (by omega), qbI_some, show (decide ((0 : Int) ≤ z1) && decide (z1 ≤ 1)) = false by rw [← Bool.decide_and]; exact decide_eq_false hz, if_pos (by decide)]
      exact m_ref1 (d := d + 28) (f := -2) h (by decide)
/-- the two change weekdays -/
def swS (s : AS) : AS := setP (setP s 0 0 (aP s 1 0)) 1 0 (aP s 0 0)
theorem swS_ok {s : AS} (ok : aOK s) : aOK (swS s) := (ok.wd (ok.p (show 1 < 2 by decide)).1).wd (ok.p (show 0 < 2 by decide)).1
theorem swS_2 (s : AS) : ∀ w k, w < 2 → aP (swS (swS s)) w k = aP s w k := fun w k hw => by
  rcases (by omega : w = 0 ∨ w = 1) with rfl | rfl
  · by_cases e : k = 0
    · subst e; rfl
    · simp [swS, aP_setP, e]
  · by_cases e : k = 0
    · subst e; rfl
    · simp [swS, aP_setP, e]
/-- what both have laid out -/
def lB (s : AS) (n : Nat) : Nat := lV s 0 (aP s 0 0) n + lV s 1 (aP s 1 0) n
theorem lB_le {s : AS} (ok : aOK s) {n : Nat} (hn2 : n ≤ 83) : lB s n ≤ 24696 := by
  have h0 := lV_le ok (w := 0) (wd := aP s 0 0) hn2
  have h1 := lV_le ok (w := 1) (wd := aP s 1 0) hn2
  unfold lB
  omega
theorem c_M_laidOfBoth (d : Nat) {n : Nat} {s : AS} {μ : QM} (h : RM μ s) (ok : aOK s) (hn : aD s ≤ n) (hn2 : n ≤ 83) :
    ∃ μ', qcall qprogs (d + 7) 239 [qR (24, 0, 0), qI (zI (n : Nat))] μ = some (some (qI (zI (lB s n : Nat))), μ') ∧ FrQ μ μ' := by
  obtain ⟨μ1, r1, f1, -⟩ := c_M_laidValue d (w := 0) h ok (by decide) hn hn2
  obtain ⟨μ2, r2, f2, -⟩ := c_M_laidValue d (w := 1) (h.q f1) ok (by decide) hn hn2
  refine ⟨μ2, ?_, f1.tr f2⟩
  rw [qe_M_laidOfBoth, qb_M_laidOfBoth_0, zI_of, zI_of, show zI (0 : Int) = zI ((0 : Nat) : Int) from rfl, show zI (1 : Int) = zI ((1 : Nat) : Int) from rfl, r1, qbI_some, r2, qbI_some, zI_add]
  rfl
theorem c_M_swaps (d : Nat) {s : AS} {μ : QM} (h : RM μ s) : ∃ μ', qcall qprogs (d + 1) 249 [qR (24, 0, 0)] μ = some (none, μ') ∧ RM μ' (swS s) ∧ FrS μ μ' := by
  have r := (h.sWd (w := 0) (v := aP s 1 0)).sWd (w := 1) (v := aP s 0 0)
  refine ⟨_, ?_, r, (FrS.row (by decide)).tr (FrS.row (by decide))⟩
  rw [qe_M_swaps, qb_M_swaps_0, zI_of, zI_of, zI_oob (a := 0) (n := 2) (by omega), zI_oob (a := 1) (n := 2) (by omega), cond_false, cond_false, cond_false, cond_false, show qix (zI 0) = 0 from zI_ixN (n := 0) (by omega), show qix (zI 1) = 1 from zI_ixN (n := 1) (by omega), h.wd (w := 0) (by decide), h.wd (w := 1) (by decide)]
theorem op_swapped {σ : GS} (ok : GOK σ) {z1 : Int} (h1 : iB z1) : OP 98 250 [qI (zI z1)] σ := by
  have b1 := h1.1
  have b2 := h1.2
  have bD := ok.1.1
  have hr := fDay_r (gS σ) z1
  have eM : ∀ d μ, MI μ σ → qcall qprogs (d + 30) 250 [qR (24, 0, 0), qI (zI z1)] μ = if zI (fDay (gS σ) z1) = 0 then qx (d + 29) qc_M_swapped 21 [some (qR (24, 0, 0)), some (qI (zI z1)), none, none, none] [] μ else qbI (qcall qprogs (d + 29) 153 [qR (24, 0, 0), qI (zI (fDay (gS σ) z1))] μ) (fun x4 μ3 => some (some (qI x4), μ3)) := fun d μ h => by
    rw [qe_M_swapped, qb_M_swapped_0, h.1.day, zI_of, c_M_bound (d + 28) (by omega), qbI_some]
    rfl
  by_cases hf : fDay (gS σ) z1 = 0
  · obtain ⟨n, rfl, hn, hn2⟩ := fDay_0 hf
    have okS := swS_ok ok.1
    have v1 := lB_le ok.1 hn2
    have v2 := lB_le okS hn2
    refine ⟨qI (zI ((lB (swS (gS σ)) n : Nat) - (lB (gS σ) n : Nat) : Int)), σ, fun d μ h => ?_, fun d μ h => ?_, ok⟩
    · obtain ⟨μ1, r1, r2, r3, r4⟩ := j_mind (d + 27) h ok
      have fm : Fr (isA 1) μ1 (qsi (qsi μ1 (3, 1, 0) 0 (zI (aP (gS σ) 1 0 : Nat))) (3, 1, 1) 0 (zI (aP (gS σ) 0 0 : Nat))) := (Fr.si ⟨Or.inr (Or.inr rfl), rfl⟩).si' ⟨Or.inr (Or.inr rfl), rfl⟩
      have ci := r2.mind fm
      have ra : RA (qsi (qsi μ1 (3, 1, 0) 0 (zI (aP (gS σ) 1 0 : Nat))) (3, 1, 1) 0 (zI (aP (gS σ) 0 0 : Nat))) 1 (swS (gS σ)) := r4.sP.sP
      obtain ⟨μ2, Q0, Q1, q1, q2, q3, q4, -⟩ := c_J_valueOfBoth (d + 12) (show 1 < 11 by decide) ra okS hn hn2 (ci.1.2 0 (by decide)).1 (ci.1.2 1 (by decide)).1
      have ra2 := ci.1.1.1.pls q2
      obtain ⟨μ3, Q2, Q3, t1, t2, t3, t4, -⟩ := c_J_valueOfBoth (d + 12) (show 0 < 11 by decide) ra2 ok.1 hn hn2 q3.2.1 q4.2.1
      have fx : Fr isX _ μ3 := (q2.tr t2).mono fun a ha => Or.inl ha
      refine ⟨μ3, ?_, ⟨ci.1.1.x fx, fun p hp => ?_⟩, r3.tr (ci.2.tr (fx.mono isX.cl))⟩
      · rw [qe_J_swapped, qb_J_swapped_0, c_J_faultOfDay (d + 28) h.1.1 ok.1 h1, qbI_some, hf, if_pos zI0, qb_J_swapped_16, r1, qbV_some, r2.1.1.p 0 (show 1 < 2 by decide), qsi_ne (by simp), r2.1.1.p 0 (show 0 < 2 by decide), q1, qbI_some, t1, qbI_some, zI_sub]
        rfl
      · rcases (by omega : p = 0 ∨ p = 1) with rfl | rfl
        · exact ⟨t3.2.1, _, _, t3.1⟩
        · exact ⟨t4.2.1, _, _, t4.1⟩
    · obtain ⟨μ1, r1, r2⟩ := c_M_laidOfBoth (d + 22) h.1 ok.1 hn hn2
      have h2 := h.1.q r2
      obtain ⟨μ2, s1, s2, s3⟩ := c_M_swaps (d + 28) h2
      obtain ⟨μ3, t1, t2⟩ := c_M_laidOfBoth (d + 22) s2 okS hn hn2
      obtain ⟨μ4, u1, u2, u3⟩ := c_M_swaps (d + 28) (s2.q t2)
      rw [eM d μ h, hf, if_pos zI0, qb_M_swapped_21, r1, qbI_some, s1, qbV_some, t1, qbI_some, u1, qbV_some, zI_sub]
      have hb := h.rr ok (((r2.r.tr s3.r).tr t2.r).tr u3.r) (u2.st rfl rfl (fun w k hw _ => (swS_2 _ w k hw).symm) (fun _ _ _ _ => rfl))
      exact ⟨μ4, rfl, hb.1, hb.2⟩
  · have hr2 : -6 ≤ fDay (gS σ) z1 ∧ fDay (gS σ) z1 ≤ -1 := by omega
    refine ⟨qI (zI (1000000000 - fDay (gS σ) z1)), refS σ (-(fDay (gS σ) z1)).toNat, fun d μ h => ?_, fun d μ h => ?_, ok.ref⟩
    · rw [qe_J_swapped, qb_J_swapped_0, c_J_faultOfDay (d + 28) h.1.1 ok.1 h1, qbI_some, if_neg (zI_n0 hr2)]
      exact j_ref2 (d := d + 27) h hr2
    · obtain ⟨μ9, r1, r2, r3⟩ := c_M_lower (d + 28) h hr2
      rw [eM d μ h, if_neg (zI_n0 hr2), r1, qbI_some]
      exact ⟨μ9, rfl, r2, r3⟩
theorem op_run {σ : GS} (ok : GOK σ) {z1 z2 z3 : Int} (h1 : iB z1) (h2 : iB z2) (h3 : iB z3) : OP 88 234 [qI (zI z1), qI (zI z2), qI (zI z3)] σ := by
  have b5 := h3.1
  have b6 := h3.2
  have hr0 := fOne_r (z := z1) (fDay_r (gS σ) z2)
  have hr := fWh_r (z := z3) (m := 2) hr0
  have st : ∀ d μ, MI μ σ → qcall qprogs (d + 30) 234 [qR (24, 0, 0), qI (zI z1), qI (zI z2), qI (zI z3)] μ = qx (d + 29) qc_M_run 26 [some (qR (24, 0, 0)), some (qI (zI z1)), some (qI (zI z2)), some (qI (zI z3)), some (qI (zI (fWh (fOne z1 (fDay (gS σ) z2)) z3 2))), none] [] μ := fun d μ h => by
    rw [qe_M_run, qb_M_run_0, c_M_notWho (d + 27) h.1 ok.1 h1 h2, qbI_some]
    unfold fWh
    by_cases e : fOne z1 (fDay (gS σ) z2) = 0
    · rw [e, if_pos zI0, if_pos rfl, zI_of 0, zI_of, c_M_isIn (d + 28) (by unfold iB at *; omega), qbI_some, qB_if]
      by_cases e2 : 0 ≤ z3 ∧ z3 ≤ 2
      · rw [show (decide ((0 : Int) ≤ z3) && decide (z3 ≤ 2)) = true by simp [e2], cond_true, if_pos e2]
      · rw [show (decide ((0 : Int) ≤ z3) && decide (z3 ≤ 2)) = false by rw [← Bool.decide_and]; exact decide_eq_false e2, cond_false, if_neg e2, zI_of]
    · rw [if_neg (zI_n0 (by omega)), if_neg e]
  by_cases hf : fWh (fOne z1 (fDay (gS σ) z2)) z3 2 = 0
  · have hf0 := hf
    obtain ⟨hf1, hz0, hz1⟩ := fWh_0 hf
    obtain ⟨⟨w, rfl, hw⟩, hd⟩ := fOne_0 hf1
    obtain ⟨n, rfl, hn, hn2⟩ := fDay_0 hd
    have okT := toS_ok (n - aD (gS σ)) ok.1 (by omega)
    obtain ⟨j, rfl, hj2⟩ : ∃ j : Nat, z3 = j ∧ j ≤ 2 := ⟨z3.toNat, by omega, by omega⟩
    refine ⟨qI (zI (aP (toS (gS σ) (n - aD (gS σ))) w (j + 1) : Nat)), σ, fun d μ h => ?_, fun d μ h => ?_, ok⟩
    · obtain ⟨μ1, r1, r2, r3, r4⟩ := j_mind (d + 27) h ok
      obtain ⟨μ2, q1, q2, q3⟩ := c_Affair_liveTo (d + 25) (show 1 < 11 by decide) r4 ok.1 hn2
      have ci := r2.mind q2
      rw [qe_J_run, qb_J_run_0, zI_of, c_J_faultOfOneDayWhat (d + 26) 2 h.1.1 ok.1 h1 h2 h3 (by omega), qbI_some, hf, if_pos zI0, qb_J_run_22, r1, qbV_some, q1, qbV_some, c_Affair_person (d + 28) (show 1 < 11 by decide) hw, qbR_some (qd3 (by decide) hw)]
      refine ⟨μ2, ?_, ci.1, r3.tr ci.2⟩
      rcases (by omega : j = 0 ∨ j = 1 ∨ j = 2) with rfl | rfl | rfl
      · rw [if_pos (show zI ((0 : Nat) : Int) = 0 from zI0), q3.p 1 hw, qb_J_run_81]
      · rw [if_neg (show ¬ zI ((1 : Nat) : Int) = 0 by decide +kernel), qb_J_run_63, if_pos (by decide +kernel), q3.p 2 hw, qb_J_run_81]
      · rw [if_neg (show ¬ zI ((2 : Nat) : Int) = 0 by decide +kernel), qb_J_run_63, if_neg (by decide +kernel), qb_J_run_76, q3.p 3 hw, qb_J_run_81]
    · obtain ⟨μ1, r1, r2, r3, r4⟩ := m_keep1 (d + 27) h ok
      obtain ⟨μ2, q1, q2, q3⟩ := c_M_goesTo (d + 23) hn2 (n - aD (gS σ)) r2 ok.1 rfl
      obtain ⟨μ3, t1, t2, t3, -⟩ := m_putb1 (d + 27) h ok (r4.tr q2.r) (r3.s q2)
      refine ⟨μ3, ?_, t2, t3⟩
      rw [st d μ h, hf0, qb_M_run_26, if_pos zI0, qb_M_run_38]
      simp only [zI_of]
      rw [r1, qbV_some, q1, qbV_some]
      rcases (by omega : j = 0 ∨ j = 1 ∨ j = 2) with rfl | rfl | rfl
      · rw [if_pos (show zI ((0 : Nat) : Int) = 0 from zI0), zI_oob (n := 2) (by omega), cond_false, show qix (zI (w : Nat)) = w from zI_ixN (by omega), q3.pu hw, qb_M_run_82]
        simp only [zI_of]
        rw [t1, qbV_some]
      · rw [if_neg (show ¬ zI ((1 : Nat) : Int) = 0 by decide +kernel), qb_M_run_62, if_pos (by decide +kernel), zI_oob (n := 2) (by omega), cond_false, show qix (zI (w : Nat)) = w from zI_ixN (by omega), q3.bo hw, qb_M_run_82]
        simp only [zI_of]
        rw [t1, qbV_some]
      · rw [if_neg (show ¬ zI ((2 : Nat) : Int) = 0 by decide +kernel), qb_M_run_62, if_neg (by decide +kernel), qb_M_run_76, zI_oob (n := 2) (by omega), cond_false, show qix (zI (w : Nat)) = w from zI_ixN (by omega), q3.ow hw, qb_M_run_82]
        simp only [zI_of]
        rw [t1, qbV_some]
  ·
    have hr2 : -6 ≤ fWh (fOne z1 (fDay (gS σ) z2)) z3 2 ∧ fWh (fOne z1 (fDay (gS σ) z2)) z3 2 ≤ -1 := by omega
    refine ⟨qI (zI (fWh (fOne z1 (fDay (gS σ) z2)) z3 2)), refS σ (-(fWh (fOne z1 (fDay (gS σ) z2)) z3 2)).toNat, fun d μ h => ?_, fun d μ h => ?_, ok.ref⟩
    · rw [qe_J_run, qb_J_run_0, zI_of, c_J_faultOfOneDayWhat (d + 26) 2 h.1.1 ok.1 h1 h2 h3 (by omega), qbI_some, if_neg (zI_n0 hr2)]
      obtain ⟨μ9, r1, r2, r3⟩ := c_J_refuse (d + 28) h hr2
      exact ⟨μ9, by simp only [r1, qbI_some], r2, r3⟩
    · rw [st d μ h, qb_M_run_26, if_neg (zI_n0 hr2)]
      obtain ⟨μ9, r1, r2, r3⟩ := c_M_no (d + 28) h hr2
      exact ⟨μ9, by simp only [r1, qbI_some], r2, r3⟩
theorem c_M_usesNow (d : Nat) {w : Nat} {s : AS} {μ : QM} (h : RM μ s) (ok : aOK s) (hw : w < 2) : qcall qprogs (d + 5) 251 [qR (24, 0, 0), qI (zI (w : Nat))] μ = some (some (qI (zI (onM (atH s w)))), μ) := by
  have b3 := ok.1
  obtain ⟨b0, -, -, -, b4⟩ := ok.p hw
  rw [qe_M_usesNow, qb_M_usesNow_0]
  simp (disch := omega) only [zI_of, zI_0, zI_1, zI_add, zI_sub, zI_mul, zI_neg, zI_lt, zI_le, zI_eq, zI_rem, zI_oob, zI_ixN, zI_ix, zI_ite, zI10, zI01, Int.toNat_natCast, cond_false, cond_true, q01_0, q01_1, q01_0z, q01_1z, qB_if, qB_ifz, qB_ret, qB_retz, qbI_some, qbV_some, qbL_some, qbR_some, qbN_some, qbN_none, true_or, or_true, false_or, or_false, if_true, if_false, Int.reduceEq, Int.reduceLT, Int.reduceLE, Int.reduceNeg, h.wd hw, h.day, h.je hw, qb_M_usesNow_38, qb_M_usesNow_40]
  unfold atH
  by_cases h1 : aD s % 7 = aP s w 0
  · rw [if_pos (by omega)]
    by_cases h2 : aP s w 4 = 0
    · rw [if_pos (by omega)]
      have hd : due s w = true := by simp [due, h1, h2]
      have t0 := c_M_soonestSour d (T := 0) h ok hw (show aD s ≤ 1000 by omega) h1 (by decide)
      rw [hndF_tk0] at t0
      have t0' : qcall qprogs (d + 4) 192 [qR (24, 0, 0), qI (zI w), qI (zI (aD s)), qI (zI 0)] μ = _ := t0
      rw [if_pos hd, t0', qbI_some]
    · rw [if_neg (by omega)]
      have hd : due s w = false := by simp [due, h2]
      rw [hd]
      rfl
  · rw [if_neg (by omega)]
    have hd : due s w = false := by simp [due, h1]
    rw [hd]
    rfl
theorem onI_M {o : Option Nat} {α : Type} (x y : α) (ho : ∀ b, o = some b → b < 100) : (if (0 : Int32) ≤ zI (onI o) then x else y) = if o = none then y else x := onI_ge x y ho
theorem op_usedOn {σ : GS} (ok : GOK σ) {z1 z2 : Int} (h1 : iB z1) (h2 : iB z2) : OP 99 252 [qI (zI z1), qI (zI z2)] σ := by
  have hr := fOne_r (z := z1) (fDay_r (gS σ) z2)
  by_cases hf : fOne z1 (fDay (gS σ) z2) = 0
  · have hf0 := hf
    obtain ⟨⟨w, rfl, hw⟩, hd⟩ := fOne_0 hf
    obtain ⟨n, rfl, hn, hn2⟩ := fDay_0 hd
    have okT := toS_ok (n - aD (gS σ)) ok.1 (by omega)
    refine ⟨qI (zI (onM (atH (toS (gS σ) (n - aD (gS σ))) w))), σ, fun d μ h => ?_, fun d μ h => ?_, ok⟩
    · obtain ⟨μ1, r1, r2, r3, r4⟩ := j_mind (d + 27) h ok
      obtain ⟨μ2, q1, q2, q3⟩ := c_Affair_liveTo (d + 25) (show 1 < 11 by decide) r4 ok.1 hn2
      have ci := r2.mind q2
      refine ⟨μ2, ?_, ci.1, r3.tr ci.2⟩
      rw [qe_J_usedOn, qb_J_usedOn_0, c_J_faultOfOneAndDay (d + 27) h.1.1 ok.1 h1 h2, qbI_some, hf, if_pos zI0, qb_J_usedOn_17, r1, qbV_some, q1, qbV_some, c_Affair_atHand (d + 27) (show 1 < 11 by decide) q3 okT hw, qbI_some, onI_M _ _ (fun b hb => by have := (atH_lt hb).1; have := okT.2.1; omega)]
      cases atH (toS (gS σ) (n - aD (gS σ))) w with
      | none => rw [if_pos rfl, qb_J_usedOn_58]; rfl
      | some c => rw [if_neg (by simp), qb_J_usedOn_56, qb_J_usedOn_58]; rfl
    · obtain ⟨μ1, r1, r2, r3, r4⟩ := m_keep1 (d + 27) h ok
      obtain ⟨μ2, q1, q2, q3⟩ := c_M_goesTo (d + 23) hn2 (n - aD (gS σ)) r2 ok.1 rfl
      obtain ⟨μ3, t1, t2, t3, -⟩ := m_putb1 (d + 27) h ok (r4.tr q2.r) (r3.s q2)
      refine ⟨μ3, ?_, t2, t3⟩
      rw [qe_M_usedOn, qb_M_usedOn_0, c_M_notWho (d + 27) h.1 ok.1 h1 h2, qbI_some, hf, if_pos zI0, qb_M_usedOn_17]
      simp only [zI_of]
      rw [r1, qbV_some, q1, qbV_some, c_M_usesNow (d + 24) q3 okT hw, qbI_some, t1, qbV_some]
  ·
    have hr2 : -6 ≤ fOne z1 (fDay (gS σ) z2) ∧ fOne z1 (fDay (gS σ) z2) ≤ -1 := by omega
    refine ⟨qI (zI (fOne z1 (fDay (gS σ) z2))), refS σ (-(fOne z1 (fDay (gS σ) z2))).toNat, fun d μ h => ?_, fun d μ h => ?_, ok.ref⟩
    · rw [qe_J_usedOn, qb_J_usedOn_0, c_J_faultOfOneAndDay (d + 27) h.1.1 ok.1 h1 h2, qbI_some, if_neg (zI_n0 hr2)]
      obtain ⟨μ9, r1, r2, r3⟩ := c_J_refuse (d + 28) h hr2
      exact ⟨μ9, by simp only [r1, qbI_some], r2, r3⟩
    · rw [qe_M_usedOn, qb_M_usedOn_0, c_M_notWho (d + 27) h.1 ok.1 h1 h2, qbI_some, if_neg (zI_n0 hr2)]
      obtain ⟨μ9, r1, r2, r3⟩ := c_M_no (d + 28) h hr2
      exact ⟨μ9, by simp only [r1, qbI_some], r2, r3⟩
theorem hndF_use {s : AS} {c w x : Nat} {tk : Nat → Bool} (hw : aC s c 2 ≠ w) : ∀ n, hndF (useC s c) w x tk n = hndF s w x tk n
  | 0 => rfl
  | n + 1 => by
    have eT : aT (useC s c) = aT s := by funext i; unfold aT aK; rw [aC_use _ _ _ _ (by decide), aC_use _ _ _ _ (by decide), aC_use _ _ _ _ (by decide)]
    have eF : aF (useC s c) n x = aF s n x := by unfold aF; rw [eT, aC_use _ _ _ _ (by decide)]
    unfold hndF
    rw [hndF_use hw n, eT, eF, aC_use _ _ _ _ (by decide)]
    by_cases e : n = c
    · subst e
      simp [hw]
    · have : aX (useC s c) n = aX s n := by
        unfold aX
        have : aC (useC s c) n 4 = aC s n 4 := by
          unfold useC
          rw [aC_setC, if_neg (fun z => e z.1)]
          rfl
        rw [this]
      rw [this]
theorem atH_oth (s : AS) : atH (livS s 0) 1 = atH s 1 := by
  unfold livS
  cases hq : atH s 0 with
  | none => rfl
  | some c =>
    obtain ⟨-, hw, -⟩ := atH_lt hq
    show atH (useC s c) 1 = _
    have e0 : ∀ k, k = 0 ∨ k = 4 → aP (useC s c) 1 k = aP s 1 k := fun k hk => by
      unfold useC
      rw [aP_setC, hw, aP_setP, if_neg (by simp), aP_setP, if_neg (by simp), aP_setP, if_neg (by omega), aP_setP, if_neg (by omega)]
    have eD : aD (useC s c) = aD s := rfl
    have eN : aN (useC s c) = aN s := rfl
    unfold atH due
    rw [e0 0 (by omega), e0 4 (by omega), eD, eN, hndF_use (by rw [hw]; decide)]
theorem livW_oth (s : AS) : livW (livS s 0) 1 = livW s 1 := by
  unfold livW
  rw [atH_oth]
  cases atH s 1 with
  | none => rfl
  | some c =>
    unfold livS
    cases atH s 0 with
    | none => rfl
    | some b => exact aW_use s b c
theorem livW_le {s : AS} (ok : aOK s) (w : Nat) : livW s w ≤ 29 := by
  unfold livW
  cases h : atH s w with
  | none => exact Nat.zero_le _
  | some c => exact ok.w (atH_lt h).1
/-- the heaviest day, and how heavy -/
def hvy : Nat → AS → Int → Nat → Int × Nat
  | 0, _, h, m => (h, m)
  | k + 1, s, h, m => hvy k (dayS s) (if m < livW s 0 + livW s 1 then (aD s : Int) else h) (if m < livW s 0 + livW s 1 then livW s 0 + livW s 1 else m)
theorem op_heavyDay {σ : GS} (ok : GOK σ) {z1 z2 : Int} (h1 : iB z1) (h2 : iB z2) : OP 103 259 [qI (zI z1), qI (zI z2)] σ := by
  have b1 := h1.1
  have b2 := h1.2
  have b3 := h2.1
  have b4 := h2.2
  have bD := ok.1.1
  have hr0 := fDay_r (gS σ) z1
  have hr := fWh_r (z := z2) (m := 1) hr0
  have st : ∀ d μ, MI μ σ → qcall qprogs (d + 30) 259 [qR (24, 0, 0), qI (zI z1), qI (zI z2)] μ = qx (d + 29) qc_M_heavyDay 27 [some (qR (24, 0, 0)), some (qI (zI z1)), some (qI (zI z2)), some (qI (zI (fWh (fDay (gS σ) z1) z2 1))), none, none, none, none] [] μ := fun d μ h => by
    rw [qe_M_heavyDay, qb_M_heavyDay_0, h.1.day, zI_of, c_M_bound (d + 28) (by omega), qbI_some, show (if z1 < (aD (gS σ) : Nat) then (-4 : Int) else if 83 < z1 then -6 else 0) = fDay (gS σ) z1 from rfl]
    unfold fWh
    by_cases e : fDay (gS σ) z1 = 0
    · rw [e, if_pos zI0, if_pos rfl, zI_of 0, zI_of, c_M_isIn (d + 28) (by unfold iB at *; omega), qbI_some, qB_if]
      by_cases e2 : 0 ≤ z2 ∧ z2 ≤ 1
      · rw [show (decide ((0 : Int) ≤ z2) && decide (z2 ≤ 1)) = true by simp [e2], cond_true, if_pos e2]
      · rw [show (decide ((0 : Int) ≤ z2) && decide (z2 ≤ 1)) = false by rw [← Bool.decide_and]; exact decide_eq_false e2, cond_false, if_neg e2, zI_of]
    · rw [if_neg (zI_n0 (by omega)), if_neg e]
  by_cases hf : fWh (fDay (gS σ) z1) z2 1 = 0
  · have hf0 := hf
    obtain ⟨hf1, hz0, hz1⟩ := fWh_0 hf
    obtain ⟨n, rfl, hn, hn2⟩ := fDay_0 hf1
    refine ⟨qI (zI (if z2 = 0 then (hvy (n + 1 - aD (gS σ)) (gS σ) (-9) 0).1 else ((hvy (n + 1 - aD (gS σ)) (gS σ) (-9) 0).2 : Nat))), σ, fun d μ h => ?_, fun d μ h => ?_, ok⟩
    · have L : ∀ (k : Nat) (s : AS) (hh : Int) (m : Nat) (μ1 : QM), n + 1 - aD s = k → aD s ≤ 84 → (k ≠ 0 → aOK s) → RA μ1 1 s → CI μ1 σ → m ≤ 58 → ∃ μ2, qx (d + 29) qc_J_heavyDay 44 [some (qR (0, 0, 0)), some (qI (zI (n : Nat))), some (qI (zI z2)), none, some (qI (zI (m : Nat))), some (qI (zI hh)), some (qI (zI (aD s : Nat))), none] [] μ1 = some (some (qI (zI (if z2 = 0 then (hvy k s hh m).1 else ((hvy k s hh m).2 : Nat)))), μ2) ∧ CI μ2 σ ∧ Fr isCl μ1 μ2 := by
        intro k
        induction k with
        | zero =>
          intro s hh m μ1 hk h84 _ hA hC hm
          rw [qb_J_heavyDay_44, if_pos (by rw [zI_lt (by omega)]; omega), qb_J_heavyDay_97]
          refine ⟨μ1, ?_, hC, Fr.rf⟩
          by_cases e : z2 = 0
          · rw [if_pos (by rw [e]; exact zI0), if_pos e, qb_J_heavyDay_108]; rfl
          · rw [if_neg (by rw [zI_0, zI_eq (by omega)]; exact e), if_neg e, qb_J_heavyDay_106, qb_J_heavyDay_108]; rfl
        | succ k ih =>
          intro s hh m μ1 hk h84 oks hA hC hm
          have oks := oks (by omega)
          obtain ⟨μ2, r1, r2, r3⟩ := c_Affair_liveDay (d + 26) (w := 0) (show 1 < 11 by decide) hA oks (by decide)
          obtain ⟨μ3, q1, q2, q3⟩ := c_Affair_liveDay (d + 26) (w := 1) (show 1 < 11 by decide) r3 (livS_ok oks 0) (by decide)
          obtain ⟨μ4, t1, t2, t3⟩ := c_Affair_endDay (d + 26) (show 1 < 11 by decide) q3 (livS_ok (livS_ok oks 0) 1)
          have ci := hC.mind ((r2.tr q2).tr t2)
          have w0 := livW_le oks 0
          have w1 := livW_le oks 1
          have i1 := fun hh' m' hm' => ih (dayS s) hh' m' μ4 (by rw [dayS_D]; omega) (by rw [dayS_D]; omega) (fun hk0 => dayS_ok oks (by omega)) t3 ci.1 hm'
          rw [livW_oth] at q1
          rw [qb_J_heavyDay_44, if_neg (by rw [zI_lt (by omega)]; omega), zI_of, zI_of, show zI (0 : Int) = zI ((0 : Nat) : Int) from rfl, show zI (1 : Int) = zI ((1 : Nat) : Int) from rfl, r1, qbI_some, q1, qbI_some, zI_addN]
          show ∃ μ5, _ = some (some (qI (zI (if z2 = 0 then (hvy k (dayS s) _ _).1 else ((hvy k (dayS s) _ _).2 : Nat)))), μ5) ∧ _
          by_cases e : m < livW s 0 + livW s 1
          · rw [if_neg (by rw [zI_le (by omega)]; omega), if_pos e, if_pos e, qb_J_heavyDay_84, t1, qbV_some, zI_of, zI_add]
            obtain ⟨μ5, x1, x2, x3⟩ := i1 (aD s) (livW s 0 + livW s 1) (by omega)
            rw [dayS_D] at x1
            exact ⟨μ5, x1, x2, ci.2.tr x3⟩
          · rw [if_pos (by rw [zI_le (by omega)]; omega), if_neg e, if_neg e, qb_J_heavyDay_84, t1, qbV_some, zI_of, zI_add]
            obtain ⟨μ5, x1, x2, x3⟩ := i1 hh m hm
            rw [dayS_D] at x1
            exact ⟨μ5, x1, x2, ci.2.tr x3⟩
      obtain ⟨μ1, r1, r2, r3, r4⟩ := j_mind (d + 27) h ok
      obtain ⟨μ2, q1, q2, q3⟩ := L _ (gS σ) (-9) 0 μ1 rfl (by omega) (fun _ => ok.1) r4 r2 (by omega)
      refine ⟨μ2, ?_, q2, r3.tr q3⟩
      rw [qe_J_heavyDay, qb_J_heavyDay_0, c_J_faultOfDayWhat (d + 27) h.1.1 ok.1 h1 h2, qbI_some, hf, if_pos zI0, qb_J_heavyDay_17, r1, qbV_some, r2.1.1.day, zI_of, zI_of]
      exact q1
    · have L : ∀ (k : Nat) (s : AS) (hh : Int) (m : Nat) (μ1 : QM), n + 1 - aD s = k → aD s ≤ 84 → (k ≠ 0 → aOK s) → RM μ1 s → KS μ1 1 (gS σ) → FrR μ μ1 → m ≤ 58 → ∃ μ2, qx (d + 29) qc_M_heavyDay 50 [some (qR (24, 0, 0)), some (qI (zI (n : Nat))), some (qI (zI z2)), none, some (qI (zI hh)), some (qI (zI (m : Nat))), none, none] [] μ1 = some (some (qI (zI (if z2 = 0 then (hvy k s hh m).1 else ((hvy k s hh m).2 : Nat)))), μ2) ∧ MI μ2 σ ∧ Fr isMd μ μ2 := by
        intro k
        induction k with
        | zero =>
          intro s hh m μ1 hk h84 _ hA hK hR hm
          obtain ⟨μ3, t1, t2, t3, -⟩ := m_putb1 (d + 27) h ok hR hK
          rw [qb_M_heavyDay_50, hA.day, if_pos (by rw [zI_lt (by omega)]; omega), qb_M_heavyDay_145, zI_of, zI_of, t1, qbV_some]
          refine ⟨μ3, ?_, t2, t3⟩
          by_cases e : z2 = 0
          · rw [if_pos (by rw [e]; exact zI0), if_pos e, qb_M_heavyDay_162]; rfl
          · rw [if_neg (by rw [zI_0, zI_eq (by omega)]; exact e), if_neg e, qb_M_heavyDay_160, qb_M_heavyDay_162]; rfl
        | succ k ih =>
          intro s hh m μ1 hk h84 oks hA hK hR hm
          have oks := oks (by omega)
          have w0 := livW_le oks 0
          have w1 := livW_le oks 1
          have n12 := oks.2.1
          obtain ⟨μ4, t1, t2, t3⟩ := c_M_goesOne (d + 24) hA oks
          have i1 := fun hh' m' hm' => ih (dayS s) hh' m' μ4 (by rw [dayS_D]; omega) (by rw [dayS_D]; omega) (fun hk0 => dayS_ok oks (by omega)) t3 (hK.s t2) (hR.tr t2.r) hm'
          have W : ∀ w, w < 2 → ∀ v : Nat, qx (d + 29) qc_M_heavyDay 64 [some (qR (24, 0, 0)), some (qI (zI (n : Nat))), some (qI (zI z2)), none, some (qI (zI hh)), some (qI (zI (m : Nat))), some (qI (zI (v : Nat))), some (qI (zI (w : Nat)))] [] μ1 = qx (d + 29) qc_M_heavyDay 64 [some (qR (24, 0, 0)), some (qI (zI (n : Nat))), some (qI (zI z2)), none, some (qI (zI hh)), some (qI (zI (m : Nat))), some (qI (zI ((v + livW s w : Nat) : Int))), some (qI (zI ((w + 1 : Nat) : Int)))] [] μ1 := fun w hw v => by
            rw [qb_M_heavyDay_64, if_neg (by rw [zI_of, zI_le (by omega)]; omega), c_M_usesNow (d + 24) hA oks hw, qbI_some, onM_ge _ _ (fun b hb => by have := (atH_lt hb).1; omega)]
            unfold livW
            cases hq : atH s w with
            | none =>
              rw [if_pos rfl, qb_M_heavyDay_95, zI_of, zI_of, zI_add, zI_add]
              rfl
            | some c =>
              have hc := (atH_lt hq).1
              rw [if_neg (by simp), qb_M_heavyDay_85, c_M_usesNow (d + 24) hA oks hw, qbI_some, hq, show onM (some c) = (c : Nat) from rfl, c_M_weightOf (d + 28) hA oks hc, qbI_some, qb_M_heavyDay_95, zI_of, zI_add, zI_add]
              rfl
          have W0 := W 0 (by decide) 0
          have W1 := W 1 (by decide) (0 + livW s 0)
          rw [Nat.zero_add] at W0 W1
          rw [qb_M_heavyDay_50, hA.day, if_neg (by rw [zI_lt (by omega)]; omega), zI_of, show zI (0 : Int) = zI ((0 : Nat) : Int) from rfl, W0, W1, qb_M_heavyDay_64, if_pos (by rw [zI_of, zI_le (by omega)]; omega), qb_M_heavyDay_104]
          show ∃ μ5, _ = some (some (qI (zI (if z2 = 0 then (hvy k (dayS s) _ _).1 else ((hvy k (dayS s) _ _).2 : Nat)))), μ5) ∧ _
          by_cases e : m < livW s 0 + livW s 1
          · rw [if_neg (by rw [zI_le (by omega)]; omega), if_pos e, if_pos e, hA.day, qb_M_heavyDay_120, if_neg (by rw [zI_le (by omega)]; omega), qb_M_heavyDay_136, t1, qbV_some]
            exact i1 (aD s) (livW s 0 + livW s 1) (by omega)
          · rw [if_pos (by rw [zI_le (by omega)]; omega), if_neg e, if_neg e, qb_M_heavyDay_118, qb_M_heavyDay_120, if_pos (by rw [zI_le (by omega)]; omega), qb_M_heavyDay_134, qb_M_heavyDay_136, t1, qbV_some]
            exact i1 hh m hm
      obtain ⟨μ1, r1, r2, r3, r4⟩ := m_keep1 (d + 27) h ok
      obtain ⟨μ2, q1, q2, q3⟩ := L _ (gS σ) (-9) 0 μ1 rfl (by omega) (fun _ => ok.1) r2 r3 r4 (by omega)
      refine ⟨μ2, ?_, q2, q3⟩
      rw [st d μ h, hf0, qb_M_heavyDay_27, if_pos zI0, qb_M_heavyDay_37]
      simp only [zI_of]
      rw [r1, qbV_some]
      exact q1
  ·
    have hr2 : -6 ≤ fWh (fDay (gS σ) z1) z2 1 ∧ fWh (fDay (gS σ) z1) z2 1 ≤ -1 := by omega
    refine ⟨qI (zI (fWh (fDay (gS σ) z1) z2 1)), refS σ (-(fWh (fDay (gS σ) z1) z2 1)).toNat, fun d μ h => ?_, fun d μ h => ?_, ok.ref⟩
    · rw [qe_J_heavyDay, qb_J_heavyDay_0, c_J_faultOfDayWhat (d + 27) h.1.1 ok.1 h1 h2, qbI_some, if_neg (zI_n0 hr2)]
      obtain ⟨μ9, r1, r2, r3⟩ := c_J_refuse (d + 28) h hr2
      exact ⟨μ9, by simp only [r1, qbI_some], r2, r3⟩
    · rw [st d μ h, qb_M_heavyDay_27, if_neg (zI_n0 hr2)]
      obtain ⟨μ9, r1, r2, r3⟩ := c_M_no (d + 28) h hr2
      exact ⟨μ9, by simp only [r1, qbI_some], r2, r3⟩
end
