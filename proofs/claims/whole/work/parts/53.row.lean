section
/-! count, feed, row, clear, judge -/
theorem c_M_allCauses (d : Nat) {s : AS} {μ : QM} (h : RM μ s) (ok : aOK s) : qcall qprogs (d + 1) 201 [qR (24, 0, 0)] μ = some (some (qI (zI ((2 ^ aN s - 1 : Nat) : Int))), μ) := by
  have n12 := ok.2.1
  rw [qe_M_allCauses, qb_M_allCauses_0, h.cnt]
  simp (disch := omega) only [zI_of, zI_0, zI_1, zI_add, zI_sub, zI_mul, zI_neg, zI_lt, zI_le, zI_eq, zI_rem, zI_oob, zI_ixN, zI_ix, zI_ite, zI10, zI01, Int.toNat_natCast, cond_false, cond_true, q01_0, q01_1, q01_0z, q01_1z, qB_if, qB_ifz, qB_ret, qB_retz, qbI_some, qbV_some, qbL_some, qbR_some, qbN_some, qbN_none, true_or, or_true, false_or, or_false, if_true, if_false, Int.reduceEq, Int.reduceLT, Int.reduceLE, Int.reduceNeg, zI_31, zI_bit]
  rw [zI_pm1c]
theorem c_M_unused (d : Nat) {s : AS} {μ : QM} (h : RM μ s) (ok : aOK s) : qcall qprogs (d + 1) 214 [qR (24, 0, 0)] μ = some (some (qI (zI (mk (aX s) (aN s) : Nat))), μ) := by
  have h12 := ok.2.1
  have L : ∀ k c, c + k = aN s → qx d qc_M_unused 4 [some (qR (24, 0, 0)), some (qI (zI (mk (aX s) c : Nat))), some (qI (zI (c : Nat)))] [] μ = some (some (qI (zI (mk (aX s) (aN s) : Nat))), μ) := by
    intro k
    induction k with
    | zero =>
      intro c hc
      rw [qb_M_unused_4, h.cnt]
      simp (disch := omega) only [zI_of, zI_0, zI_1, zI_add, zI_sub, zI_mul, zI_neg, zI_lt, zI_le, zI_eq, zI_rem, zI_oob, zI_ixN, zI_ix, zI_ite, zI10, zI01, Int.toNat_natCast, cond_false, cond_true, q01_0, q01_1, q01_0z, q01_1z, qB_if, qB_ifz, qB_ret, qB_retz, qbI_some, qbV_some, qbL_some, qbR_some, qbN_some, qbN_none, true_or, or_true, false_or, or_false, if_true, if_false, Int.reduceEq, Int.reduceLT, Int.reduceLE, Int.reduceNeg, qb_M_unused_37]
      rw [if_pos (by omega), show c = aN s by omega]
    | succ k ih =>
      intro c hc
      have hcn : c < aN s := by omega
      have b4 := (ok.c hcn).2.2.2.2
      have i1 := ih (c + 1) (by omega)
      rw [qb_M_unused_4, h.cnt, if_neg (by rw [zI_le (by omega)]; omega), zI_oob (n := 12) (by omega), cond_false, show qix (zI (c : Nat)) = c from zI_ixN (by omega), h.us hcn]
      by_cases h1 : aC s c 4 = 0
      · rw [mk_t (by simp [aX, h1])] at i1
        rw [if_pos (by rw [h1]; exact zI0), qb_M_unused_29]
        simp (disch := omega) only [zI_of, zI_0, zI_1, zI_add, zI_sub, zI_mul, zI_neg, zI_lt, zI_le, zI_eq, zI_rem, zI_oob, zI_ixN, zI_ix, zI_ite, zI10, zI01, Int.toNat_natCast, cond_false, cond_true, q01_0, q01_1, q01_0z, q01_1z, qB_if, qB_ifz, qB_ret, qB_retz, qbI_some, qbV_some, qbL_some, qbR_some, qbN_some, qbN_none, true_or, or_true, false_or, or_false, if_true, if_false, Int.reduceEq, Int.reduceLT, Int.reduceLE, Int.reduceNeg, zI_31, zI_bit, zI_or, mk_or]
        exact i1
      · rw [mk_f (by simp [aX, h1])] at i1
        rw [if_neg (by rw [zI_0, zI_eq (by omega)]; omega), qb_M_unused_28, qb_M_unused_29]
        simp only [zI_of, zI_add]
        rw [show zI (0 : Int) = zI ((0 : Nat) : Int) from rfl, zI_or, Nat.or_zero]
        exact i1
  rw [qe_M_unused, qb_M_unused_0]
  exact L (aN s) 0 (by omega)
/-- what is counted -/
def cnt (σ : GS) (z : Int) : Int32 := if z = 0 then zI (aN (gS σ) : Nat) else if z = 1 then zI (aD (gS σ) : Nat) else if z = 2 then zI (mk (fun c => decide (aC (gS σ) c 4 = 1)) (aN (gS σ)) : Nat) else if z = 3 then zI (aWU (gS σ) (aN (gS σ)) : Nat) else if z = 4 then zI (gL σ : Nat) else if z = 5 then zI (gK σ : Nat) else if z = 6 then zI (gN σ : Nat) else if 11 ≤ z ∧ z ≤ 16 then zI (gF σ (z - 10).toNat : Nat) else zI (-9)
theorem op_count {σ : GS} (ok : GOK σ) {z1 : Int} (h1 : iB z1) : OP 68 264 [qI (zI z1)] σ := by
  have b1 := h1.1
  have b2 := h1.2
  have n12 := ok.1.2.1
  refine ⟨qI (cnt σ z1), σ, fun d μ h => ⟨μ, ?_, h, Fr.rf⟩, fun d μ h => ⟨μ, ?_, h, Fr.rf⟩, ok⟩
  · rw [qe_J_count, qb_J_count_0]
    unfold cnt
    by_cases e0 : z1 = 0
    · rw [if_pos e0, e0, if_pos (by decide +kernel), qb_J_count_44, h.1.1.cnt]
    by_cases e1 : z1 = 1
    · rw [if_neg e0, if_pos e1, e1, if_neg (by decide +kernel), if_pos (by decide +kernel), qb_J_count_52, h.1.1.day]
    by_cases e2 : z1 = 2
    · rw [if_neg e0, if_neg e1, if_pos e2, e2, if_neg (by decide +kernel), if_neg (by decide +kernel), if_pos (by decide +kernel), qb_J_count_60, c_Affair_used (d + 28) (show 0 < 11 by decide) h.1.1 ok.1, qbI_some]
    by_cases e3 : z1 = 3
    · rw [if_neg e0, if_neg e1, if_neg e2, if_pos e3, e3, if_neg (by decide +kernel), if_neg (by decide +kernel), if_neg (by decide +kernel), if_pos (by decide +kernel), qb_J_count_68, c_Affair_weightUnused (d + 28) (show 0 < 11 by decide) h.1.1 ok.1, qbI_some]
    by_cases e4 : z1 = 4
    · rw [if_neg e0, if_neg e1, if_neg e2, if_neg e3, if_pos e4, e4, if_neg (by decide +kernel), if_neg (by decide +kernel), if_neg (by decide +kernel), if_neg (by decide +kernel), if_pos (by decide +kernel), qb_J_count_76, h.1.2.2.2.1.1]
    by_cases e5 : z1 = 5
    · rw [if_neg e0, if_neg e1, if_neg e2, if_neg e3, if_neg e4, if_pos e5, e5, if_neg (by decide +kernel), if_neg (by decide +kernel), if_neg (by decide +kernel), if_neg (by decide +kernel), if_neg (by decide +kernel), if_pos (by decide +kernel), qb_J_count_81, h.1.2.2.2.2.1.1]
    by_cases e6 : z1 = 6
    · rw [if_neg e0, if_neg e1, if_neg e2, if_neg e3, if_neg e4, if_neg e5, if_pos e6, e6, if_neg (by decide +kernel), if_neg (by decide +kernel), if_neg (by decide +kernel), if_neg (by decide +kernel), if_neg (by decide +kernel), if_neg (by decide +kernel), if_pos (by decide +kernel), qb_J_count_86, h.c5]
    rw [if_neg e0, if_neg e1, if_neg e2, if_neg e3, if_neg e4, if_neg e5, if_neg e6]
    simp only [zI_of, zI_sub]
    rw [if_neg (by rw [zI_eq (by omega)]; exact e0), if_neg (by rw [zI_eq (by omega)]; exact e1), if_neg (by rw [zI_eq (by omega)]; exact e2), if_neg (by rw [zI_eq (by omega)]; exact e3), if_neg (by rw [zI_eq (by omega)]; exact e4), if_neg (by rw [zI_eq (by omega)]; exact e5), if_neg (by rw [zI_eq (by omega)]; exact e6), qb_J_count_91]
    simp only [zI_of, zI_sub]
    by_cases q : -2147483648 ≤ z1 - 10
    · by_cases e : 11 ≤ z1 ∧ z1 ≤ 16
      · have r := h.1.2.2.2.2.2 (z1 - 10).toNat (by omega) (by omega)
        rw [if_pos e, if_neg (by rw [zI_lt (by omega)]; omega), if_neg (by rw [zI_le (by omega)]; omega), zI_oob (n := 7) (by omega), cond_false, show qix (zI (z1 - 10)) = (z1 - 10).toNat from zI_ix (by omega), r, qb_J_count_121]
      · rw [if_neg e]
        by_cases e2 : z1 - 10 < 1
        · rw [if_pos (by rw [zI_lt (by omega)]; omega), qb_J_count_119, qb_J_count_121, zI_of]
        · rw [if_neg (by rw [zI_lt (by omega)]; omega), if_pos (by rw [zI_le (by omega)]; omega), qb_J_count_119, qb_J_count_121, zI_of]
    · have w : zI (z1 - 10) = zI (z1 - 10 + 4294967296) := by
        unfold zI
        exact Int32.toInt_inj.mp (by rw [Int32.toInt_ofInt, Int32.toInt_ofInt]; exact (Int.add_bmod_right (z1 - 10) 4294967296).symm)
      rw [w, if_neg (show ¬ (11 ≤ z1 ∧ z1 ≤ 16) by omega), if_neg (by rw [zI_lt (by omega)]; omega), if_pos (by rw [zI_le (by omega)]; omega), qb_J_count_119, qb_J_count_121, zI_of]
  · rw [qe_M_count, qb_M_count_0]
    simp only [zI_of, zI_sub]
    rw [c_M_isIn (d + 28) (by omega), qbI_some]
    unfold cnt
    by_cases e : 11 ≤ z1 ∧ z1 ≤ 16
    · have r := h.2.2.2.2.2 (z1 - 10).toNat (by omega) (by omega)
      rw [show (decide ((11 : Int) ≤ z1) && decide (z1 ≤ 16)) = true by simp [e], if_neg (show ¬ qB true = 0 by decide), zI_oob (n := 7) (by omega), cond_false, show qix (zI (z1 - 10)) = (z1 - 10).toNat from zI_ix (by omega), r, if_neg (show ¬ z1 = 0 by omega), if_neg (show ¬ z1 = 1 by omega), if_neg (show ¬ z1 = 2 by omega), if_neg (show ¬ z1 = 3 by omega), if_neg (show ¬ z1 = 4 by omega), if_neg (show ¬ z1 = 5 by omega), if_neg (show ¬ z1 = 6 by omega), if_pos e]
    rw [show (decide ((11 : Int) ≤ z1) && decide (z1 ≤ 16)) = false by rw [← Bool.decide_and]; exact decide_eq_false e, if_pos (show qB false = 0 by decide), qb_M_count_21]
    by_cases e0 : z1 = 0
    · rw [if_pos e0, e0, if_pos (by decide +kernel), qb_M_count_68, h.1.cnt]
    by_cases e1 : z1 = 1
    · rw [if_neg e0, if_pos e1, e1, if_neg (by decide +kernel), if_pos (by decide +kernel), qb_M_count_73, h.1.day]
    by_cases e2 : z1 = 2
    · rw [if_neg e0, if_neg e1, if_pos e2, e2, if_neg (by decide +kernel), if_neg (by decide +kernel), if_pos (by decide +kernel), qb_M_count_78, c_M_allCauses (d + 28) h.1 ok.1, qbI_some, c_M_unused (d + 28) h.1 ok.1, qbI_some, zI_of, zI_nd, mk_all, mk_nd _ _ (by omega)]
      refine congrArg (fun z : Nat => (some (some (qI (zI z)), μ) : QR)) (mk_congr _ fun i hi => ?_)
      have := (ok.1.c hi).2.2.2.2
      unfold aX
      rcases (by omega : aC (gS σ) i 4 = 0 ∨ aC (gS σ) i 4 = 1) with e | e <;> simp [e]
    by_cases e3 : z1 = 3
    · have L : ∀ k c, c + k = aN (gS σ) → qx (d + 29) qc_M_count 92 [some (qR (24, 0, 0)), none, some (qI (zI (aWU (gS σ) c : Nat))), some (qI (zI (c : Nat)))] [] μ = some (some (qI (zI (aWU (gS σ) (aN (gS σ)) : Nat))), μ) := by
        intro k
        induction k with
        | zero =>
          intro c hc
          rw [qb_M_count_92, h.1.cnt, if_pos (by rw [zI_le (by omega)]; omega), qb_M_count_127, show c = aN (gS σ) by omega]
        | succ k ih =>
          intro c hc
          have hcn : c < aN (gS σ) := by omega
          have b4 := (ok.1.c hcn).2.2.2.2
          have i1 := ih (c + 1) (by omega)
          rw [qb_M_count_92, h.1.cnt, if_neg (by rw [zI_le (by omega)]; omega), zI_oob (n := 12) (by omega), cond_false, show qix (zI (c : Nat)) = c from zI_ixN (by omega), h.1.us hcn]
          by_cases h1 : aC (gS σ) c 4 = 0
          · rw [show aWU (gS σ) (c + 1) = aWU (gS σ) c + aW (gS σ) c by simp [aWU, h1]] at i1
            rw [if_pos (by rw [h1]; exact zI0), c_M_weightOf (d + 28) h.1 ok.1 hcn, qbI_some, qb_M_count_119, zI_of, zI_add, zI_add]
            exact i1
          · rw [show aWU (gS σ) (c + 1) = aWU (gS σ) c by simp [aWU, h1]] at i1
            rw [if_neg (by rw [zI_0, zI_eq (by omega)]; omega), qb_M_count_118, qb_M_count_119, zI_of, zI_of, zI_add, zI_add, Int.add_zero]
            exact i1
      rw [if_neg e0, if_neg e1, if_neg e2, if_pos e3, e3, if_neg (by decide +kernel), if_neg (by decide +kernel), if_neg (by decide +kernel), if_pos (by decide +kernel), qb_M_count_90, zI_of]
      exact L (aN (gS σ)) 0 (by omega)
    by_cases e4 : z1 = 4
    · rw [if_neg e0, if_neg e1, if_neg e2, if_neg e3, if_pos e4, e4, if_neg (by decide +kernel), if_neg (by decide +kernel), if_neg (by decide +kernel), if_neg (by decide +kernel), if_pos (by decide +kernel), qb_M_count_129, h.2.2.2.1.1]
    by_cases e5 : z1 = 5
    · rw [if_neg e0, if_neg e1, if_neg e2, if_neg e3, if_neg e4, if_pos e5, e5, if_neg (by decide +kernel), if_neg (by decide +kernel), if_neg (by decide +kernel), if_neg (by decide +kernel), if_neg (by decide +kernel), if_pos (by decide +kernel), qb_M_count_134, h.2.2.2.2.1.1]
    by_cases e6 : z1 = 6
    · rw [if_neg e0, if_neg e1, if_neg e2, if_neg e3, if_neg e4, if_neg e5, if_pos e6, e6, if_neg (by decide +kernel), if_neg (by decide +kernel), if_neg (by decide +kernel), if_neg (by decide +kernel), if_neg (by decide +kernel), if_neg (by decide +kernel), if_pos (by decide +kernel), qb_M_count_139, h.2.2.1.2.1]
    rw [if_neg e0, if_neg e1, if_neg e2, if_neg e3, if_neg e4, if_neg e5, if_neg e6, if_neg e]
    simp only [zI_of]
    rw [if_neg (by rw [zI_eq (by omega)]; exact e0), if_neg (by rw [zI_eq (by omega)]; exact e1), if_neg (by rw [zI_eq (by omega)]; exact e2), if_neg (by rw [zI_eq (by omega)]; exact e3), if_neg (by rw [zI_eq (by omega)]; exact e4), if_neg (by rw [zI_eq (by omega)]; exact e5), if_neg (by rw [zI_eq (by omega)]; exact e6), qb_M_count_144, zI_of]
/-- letters, the row -/
def letS (σ : GS) (n : Nat) (T : Nat → Nat) : GS := (gS σ, gI σ, (gN σ, gP σ), (n, T), (gK σ, gR σ), gF σ)
def rowS (σ : GS) (n : Nat) (R : Nat → Nat) : GS := (gS σ, gI σ, (gN σ, gP σ), (gL σ, gT σ), (n, R), gF σ)
theorem CI.hd {μ μ' : QM} {σ : GS} {n n' : Nat} {T R : Nat → Nat} (h : CI μ σ) (f : Fr isHd μ μ') (e3 : μ'.1 (0, 0, 0) 3 = μ.1 (0, 0, 0) 3) (e5 : μ'.1 (0, 0, 0) 5 = μ.1 (0, 0, 0) 5) (e17 : μ'.2.2 (17, 0, 0) = μ.2.2 (17, 0, 0)) (e20 : μ'.1 (20, 0, 0) = μ.1 (20, 0, 0)) (hL : CLet μ' n T) (hK : CNum μ' n' R) : CI μ' (gS σ, gI σ, (gN σ, gP σ), (n, T), (n', R), gF σ) ∧ Fr isCl μ μ' := by
  obtain ⟨⟨h1, h2, h3, h4, h5, h6⟩, h7⟩ := h
  refine ⟨⟨⟨h1.hd f, h2.c e3 (fun s q => q.hd f), h3.cut (Nat.le_refl _) (e5.trans h3.2.1) e17 (fun j s _ q => q.hd f), hL, hK, h6.c e20⟩, h7.fr f fun t p c ht ht2 z => ?_⟩, f.mono isHd_cl⟩
  rcases z with z | z
  · simp at z; omega
  · dsimp only at z; omega
theorem MI.hd {μ μ' : QM} {σ : GS} {n n' : Nat} {T R : Nat → Nat} (h : MI μ σ) (ok : GOK σ) (f : Fr (fun a => a = (24, 0, 0) ∨ a = (36, 0, 0) ∨ a = (45, 0, 0)) μ μ') (e : ∀ k, k ≠ 17 → k ≠ 33 → μ'.1 (24, 0, 0) k = μ.1 (24, 0, 0) k) (hL : MLet μ' n T) (hK : MNum μ' n' R) : MI μ' (gS σ, gI σ, (gN σ, gP σ), (n, T), (n', R), gF σ) ∧ Fr isMd μ μ' := by
  obtain ⟨h1, h2, h3, h4, h5, h6⟩ := h
  have no : ∀ t, t ≠ 24 → t ≠ 36 → t ≠ 45 → μ'.1 (t, 0, 0) = μ.1 (t, 0, 0) := fun t a b c => f.1 _ (by simp; omega)
  refine ⟨⟨h1.congr (e 12 (by decide) (by decide)) (e 11 (by decide) (by decide)) (fun k hk => no _ (by omega) (by omega) (by omega)) rfl rfl (fun _ _ _ _ => rfl) (fun _ _ _ _ => rfl), h2.c ok.2.1 (e 21 (by decide) (by decide)) (fun x _ => by rw [no 40 (by decide) (by decide) (by decide)]), h3.cut ok.2.2.2.1 (Nat.le_refl _) ((e 24 (by decide) (by decide)).trans h3.2.1) (fun x _ => by rw [no 40 (by decide) (by decide) (by decide)]), hL, hK, h6.c (no 25 (by decide) (by decide) (by decide))⟩, f.mono fun a ha => ?_⟩
  unfold isMd
  rcases ha with q | q | q <;> rw [q] <;> decide
theorem op_feed {σ : GS} (ok : GOK σ) {z1 : Int} (h1 : iB z1) : OP 57 161 [qI (zI z1)] σ := by
  have b1 := h1.1
  have b2 := h1.2
  obtain ⟨o1, o2, o3, o4, o5, o6, o7⟩ := ok
  have ok : GOK σ := ⟨o1, o2, o3, o4, o5, o6, o7⟩
  have eM : ∀ d μ, MI μ σ → qcall qprogs (d + 30) 161 [qR (24, 0, 0), qI (zI z1)] μ = qx (d + 29) qc_M_feed 25 [some (qR (24, 0, 0)), some (qI (zI z1)), some (qI (zI (if z1 < 0 then -4 else if 255 < z1 then -6 else if gL σ = 96 then -6 else 0)))] [] μ := fun d μ h => by
    rw [qe_M_feed, qb_M_feed_0]
    simp only [zI_of]
    rw [c_M_bound (d + 28) (by omega), qbI_some, h.2.2.2.1.1]
    by_cases e : z1 < 0
    · rw [if_pos e, if_pos e, if_neg (by decide +kernel)]
    · rw [if_neg e, if_neg e]
      by_cases e2 : 255 < z1
      · rw [if_pos e2, if_pos e2, if_neg (by decide +kernel)]
      · rw [if_neg e2, if_neg e2, if_pos zI0]
        by_cases e3 : gL σ = 96
        · rw [if_pos e3, if_pos (by rw [e3]; rfl)]
        · rw [if_neg e3, if_neg (by rw [zI_eq (by omega)]; omega)]
  by_cases e : z1 < 0
  · refine ⟨qI (zI (-4)), refS σ 4, fun d μ h => ?_, fun d μ h => ?_, ok.ref⟩
    · rw [qe_J_feed, qb_J_feed_0, if_neg (by rw [zI_0, zI_le (by omega)]; omega), zI_of]
      exact j_ref1 (d := d + 28) (f := -4) h (by decide)
    · rw [eM d μ h, if_pos e, qb_M_feed_25, if_neg (by decide +kernel)]
      exact m_ref1 (d := d + 28) (f := -4) h (by decide)
  · have eJ : ∀ d μ, CI μ σ → qcall qprogs (d + 30) 57 [qR (0, 0, 0), qI (zI z1)] μ = qx (d + 29) qc_J_feed 11 [some (qR (0, 0, 0)), some (qI (zI z1))] [] μ := fun d μ h => by
      rw [qe_J_feed, qb_J_feed_0, if_pos (by rw [zI_0, zI_le (by omega)]; omega)]
    by_cases e2 : 255 < z1 ∨ gL σ = 96
    · refine ⟨qI (zI (-6)), refS σ 6, fun d μ h => ?_, fun d μ h => ?_, ok.ref⟩
      · have q : qcall qprogs (d + 30) 57 [qR (0, 0, 0), qI (zI z1)] μ = qx (d + 29) qc_J_feed 27 [some (qR (0, 0, 0)), none] [] μ := by
          rw [eJ d μ h, qb_J_feed_11, h.1.2.2.2.1.1]
          simp only [zI_of]
          by_cases e3 : 255 < z1
          · rw [if_pos (by rw [zI_lt (by omega)]; omega)]
          · rw [if_neg (by rw [zI_lt (by omega)]; omega), if_neg (by rw [zI_lt (by omega)]; omega)]
        rw [q, qb_J_feed_27, zI_of]
        exact j_ref1 (d := d + 28) (f := -6) h (by decide)
      · have q : (if z1 < 0 then (-4 : Int) else if 255 < z1 then -6 else if gL σ = 96 then -6 else 0) = -6 := by
          rw [if_neg e]
          by_cases e3 : 255 < z1
          · rw [if_pos e3]
          · rw [if_neg e3, if_pos (by omega)]
        rw [eM d μ h, q, qb_M_feed_25, if_neg (by decide +kernel)]
        exact m_ref1 (d := d + 28) (f := -6) h (by decide)
    · obtain ⟨v, rfl, hv⟩ : ∃ k : Nat, z1 = k ∧ k ≤ 255 := ⟨z1.toNat, by omega, by omega⟩
      have hl : gL σ < 96 := by omega
      refine ⟨qI (zI (gL σ + 1 : Nat)), letS σ (gL σ + 1) (fun i => if i = gL σ then v else gT σ i), fun d μ h => ?_, fun d μ h => ?_, ⟨o1, o2, o3, o4, hl, fun i (hi : i < gL σ + 1) => ?_, o7⟩⟩
      · obtain ⟨p1, p2⟩ := h.1.2.2.2.1
        have ci := h.hd (μ' := qsi (qsi μ (18, 0, 0) (gL σ) (zI (v : Nat))) (0, 0, 0) 7 (zI ((gL σ + 1 : Nat) : Int))) (n := gL σ + 1) (T := fun i => if i = gL σ then v else gT σ i) ((Fr.si (Or.inr (by decide))).si' (Or.inl rfl)) (by rw [qsi_get, if_neg (by simp), qsi_ne (by simp)]) (by rw [qsi_get, if_neg (by simp), qsi_ne (by simp)]) rfl (by rw [qsi_ne (by simp), qsi_ne (by simp)]) ⟨qsi_self _ _ _ _, fun i hi => by
          rw [qsi_ne (by simp), qsi_get]
          dsimp only
          by_cases q : i = gL σ
          · rw [if_pos ⟨rfl, q⟩, if_pos q]
          · rw [if_neg (fun z => q z.2), if_neg q]; exact p2 i (by omega)⟩ (h.1.2.2.2.2.1.c (by rw [qsi_get, if_neg (by simp), qsi_ne (by simp)]) (by rw [qsi_ne (by simp), qsi_ne (by simp)]))
        refine ⟨_, ?_, ci.1, ci.2⟩
        rw [eJ d μ h, qb_J_feed_11, p1]
        simp only [zI_of]
        rw [if_neg (by rw [zI_lt (by omega)]; omega), if_pos (by rw [zI_lt (by omega)]; omega), qb_J_feed_34, p1, zI_oob (n := 96) (by omega), cond_false, show qix (zI (gL σ : Nat)) = gL σ from zI_ixN (by omega), qsi_self, qsi_ne (by simp), p1, zI_of, zI_add]
        rfl
      · obtain ⟨p1, p2⟩ := h.2.2.2.1
        have ci := h.hd ok (μ' := qsi (qsi μ (36, 0, 0) (gL σ) (zI (v : Nat))) (24, 0, 0) 17 (zI ((gL σ + 1 : Nat) : Int))) (n := gL σ + 1) (T := fun i => if i = gL σ then v else gT σ i) ((Fr.si (Or.inr (Or.inl rfl))).si' (Or.inl rfl)) (fun k a _ => by rw [qsi_get, if_neg (fun z => a z.2), qsi_ne (by simp)]) ⟨qsi_self _ _ _ _, fun i hi => by
          rw [qsi_ne (by simp), qsi_get]
          dsimp only
          by_cases q : i = gL σ
          · rw [if_pos ⟨rfl, q⟩, if_pos q]
          · rw [if_neg (fun z => q z.2), if_neg q]; exact p2 i (by omega)⟩ (h.2.2.2.2.1.c (by rw [qsi_get, if_neg (by simp), qsi_ne (by simp)]) (by rw [qsi_ne (by simp), qsi_ne (by simp)]))
        refine ⟨_, ?_, ci.1, ci.2⟩
        rw [eM d μ h, if_neg e, if_neg (show ¬ (255 : Int) < (v : Nat) by omega), if_neg (show ¬ gL σ = 96 by omega), qb_M_feed_25, if_pos zI0, qb_M_feed_35, p1, zI_oob (n := 96) (by omega), cond_false, show qix (zI (gL σ : Nat)) = gL σ from zI_ixN (by omega), qsi_self, qsi_ne (by simp), p1, zI_of, zI_add]
        rfl
      · show (if i = gL σ then v else gT σ i) ≤ 255
        split
        · exact hv
        · exact o6 i (by omega)
theorem op_row {σ : GS} (ok : GOK σ) {z1 : Int} (h1 : iB z1) : OP 69 260 [qI (zI z1)] σ := by
  have b1 := h1.1
  have b2 := h1.2
  obtain ⟨o1, o2, o3, o4, o5, o6, o7, o8⟩ := ok
  have ok : GOK σ := ⟨o1, o2, o3, o4, o5, o6, o7, o8⟩
  have eM : ∀ d μ, MI μ σ → qcall qprogs (d + 30) 260 [qR (24, 0, 0), qI (zI z1)] μ = qx (d + 29) qc_M_row 24 [some (qR (24, 0, 0)), some (qI (zI z1)), some (qI (zI (if z1 < 0 then -4 else if 99 < z1 then -6 else if gK σ = 12 then -6 else 0)))] [] μ := fun d μ h => by
    rw [qe_M_row, qb_M_row_0]
    simp only [zI_of]
    rw [c_M_bound (d + 28) (by omega), qbI_some, h.2.2.2.2.1.1]
    by_cases e : z1 < 0
    · rw [if_pos e, if_pos e, if_neg (by decide +kernel)]
    · rw [if_neg e, if_neg e]
      by_cases e2 : 99 < z1
      · rw [if_pos e2, if_pos e2, if_neg (by decide +kernel)]
      · rw [if_neg e2, if_neg e2, if_pos zI0]
        by_cases e3 : gK σ = 12
        · rw [if_pos e3, if_pos (by rw [e3]; rfl)]
        · rw [if_neg e3, if_neg (by rw [zI_eq (by omega)]; omega)]
  by_cases e : z1 < 0
  · refine ⟨qI (zI (-4)), refS σ 4, fun d μ h => ?_, fun d μ h => ?_, ok.ref⟩
    · rw [qe_J_row, qb_J_row_0, if_neg (by rw [zI_0, zI_le (by omega)]; omega), zI_of]
      exact j_ref1 (d := d + 28) (f := -4) h (by decide)
    · rw [eM d μ h, if_pos e, qb_M_row_24, if_neg (by decide +kernel)]
      exact m_ref1 (d := d + 28) (f := -4) h (by decide)
  · have eJ : ∀ d μ, CI μ σ → qcall qprogs (d + 30) 69 [qR (0, 0, 0), qI (zI z1)] μ = qx (d + 29) qc_J_row 11 [some (qR (0, 0, 0)), some (qI (zI z1))] [] μ := fun d μ h => by
      rw [qe_J_row, qb_J_row_0, if_pos (by rw [zI_0, zI_le (by omega)]; omega)]
    by_cases e2 : 99 < z1 ∨ gK σ = 12
    · refine ⟨qI (zI (-6)), refS σ 6, fun d μ h => ?_, fun d μ h => ?_, ok.ref⟩
      · have q : qcall qprogs (d + 30) 69 [qR (0, 0, 0), qI (zI z1)] μ = qx (d + 29) qc_J_row 26 [some (qR (0, 0, 0)), none] [] μ := by
          rw [eJ d μ h, qb_J_row_11, h.1.2.2.2.2.1.1]
          simp only [zI_of]
          by_cases e3 : 99 < z1
          · rw [if_pos (by rw [zI_lt (by omega)]; omega)]
          · rw [if_neg (by rw [zI_lt (by omega)]; omega), if_neg (by rw [zI_lt (by omega)]; omega)]
        rw [q, qb_J_row_26, zI_of]
        exact j_ref1 (d := d + 28) (f := -6) h (by decide)
      · have q : (if z1 < 0 then (-4 : Int) else if 99 < z1 then -6 else if gK σ = 12 then -6 else 0) = -6 := by
          rw [if_neg e]
          by_cases e3 : 99 < z1
          · rw [if_pos e3]
          · rw [if_neg e3, if_pos (by omega)]
        rw [eM d μ h, q, qb_M_row_24, if_neg (by decide +kernel)]
        exact m_ref1 (d := d + 28) (f := -6) h (by decide)
    · obtain ⟨v, rfl, hv⟩ : ∃ k : Nat, z1 = k ∧ k ≤ 99 := ⟨z1.toNat, by omega, by omega⟩
      have hl : gK σ < 12 := by omega
      refine ⟨qI (zI (gK σ + 1 : Nat)), rowS σ (gK σ + 1) (fun i => if i = gK σ then v else gR σ i), fun d μ h => ?_, fun d μ h => ?_, ⟨o1, o2, o3, o4, o5, o6, hl, fun i (hi : i < gK σ + 1) => ?_⟩⟩
      · obtain ⟨p1, p2⟩ := h.1.2.2.2.2.1
        have ci := h.hd (μ' := qsi (qsi μ (19, 0, 0) (gK σ) (zI (v : Nat))) (0, 0, 0) 9 (zI ((gK σ + 1 : Nat) : Int))) (n' := gK σ + 1) (R := fun i => if i = gK σ then v else gR σ i) ((Fr.si (Or.inr (by decide))).si' (Or.inl rfl)) (by rw [qsi_get, if_neg (by simp), qsi_ne (by simp)]) (by rw [qsi_get, if_neg (by simp), qsi_ne (by simp)]) rfl (by rw [qsi_ne (by simp), qsi_ne (by simp)]) (h.1.2.2.2.1.c (by rw [qsi_get, if_neg (by simp), qsi_ne (by simp)]) (by rw [qsi_ne (by simp), qsi_ne (by simp)])) ⟨qsi_self _ _ _ _, fun i hi => by
          rw [qsi_ne (by simp), qsi_get]
          dsimp only
          by_cases q : i = gK σ
          · rw [if_pos ⟨rfl, q⟩, if_pos q]
          · rw [if_neg (fun z => q z.2), if_neg q]; exact p2 i (by omega)⟩
        refine ⟨_, ?_, ci.1, ci.2⟩
        rw [eJ d μ h, qb_J_row_11, p1]
        simp only [zI_of]
        rw [if_neg (by rw [zI_lt (by omega)]; omega), if_pos (by rw [zI_lt (by omega)]; omega), qb_J_row_33, p1, zI_oob (n := 12) (by omega), cond_false, show qix (zI (gK σ : Nat)) = gK σ from zI_ixN (by omega), qsi_self, qsi_ne (by simp), p1, zI_of, zI_add]
        rfl
      · obtain ⟨p1, p2⟩ := h.2.2.2.2.1
        have ci := h.hd ok (μ' := qsi (qsi μ (45, 0, 0) (gK σ) (zI (v : Nat))) (24, 0, 0) 33 (zI ((gK σ + 1 : Nat) : Int))) (n' := gK σ + 1) (R := fun i => if i = gK σ then v else gR σ i) ((Fr.si (Or.inr (Or.inr rfl))).si' (Or.inl rfl)) (fun k _ a => by rw [qsi_get, if_neg (fun z => a z.2), qsi_ne (by simp)]) (h.2.2.2.1.c (by rw [qsi_get, if_neg (by simp), qsi_ne (by simp)]) (by rw [qsi_ne (by simp), qsi_ne (by simp)])) ⟨qsi_self _ _ _ _, fun i hi => by
          rw [qsi_ne (by simp), qsi_get]
          dsimp only
          by_cases q : i = gK σ
          · rw [if_pos ⟨rfl, q⟩, if_pos q]
          · rw [if_neg (fun z => q z.2), if_neg q]; exact p2 i (by omega)⟩
        refine ⟨_, ?_, ci.1, ci.2⟩
        rw [eM d μ h, if_neg e, if_neg (show ¬ (99 : Int) < (v : Nat) by omega), if_neg (show ¬ gK σ = 12 by omega), qb_M_row_24, if_pos zI0, qb_M_row_34, p1, zI_oob (n := 12) (by omega), cond_false, show qix (zI (gK σ : Nat)) = gK σ from zI_ixN (by omega), qsi_self, qsi_ne (by simp), p1, zI_of, zI_add]
        rfl
      · show (if i = gK σ then v else gR σ i) ≤ 99
        split
        · exact hv
        · exact o8 i (by omega)
theorem CI.clr {μ : QM} {σ : GS} (h : CI μ σ) : CI (qsi μ (0, 0, 0) 9 (zI 0)) (rowS σ 0 (gR σ)) ∧ Fr isCl μ (qsi μ (0, 0, 0) 9 (zI 0)) := h.hd (Fr.si (Or.inl rfl)) (by rw [qsi_get, if_neg (by simp)]) (by rw [qsi_get, if_neg (by simp)]) rfl (by rw [qsi_ne (by simp)]) (h.1.2.2.2.1.c (by rw [qsi_get, if_neg (by simp)]) (by rw [qsi_ne (by simp)])) ⟨qsi_self _ _ _ _, fun i hi => absurd hi (by omega)⟩
theorem MI.clr {μ : QM} {σ : GS} (h : MI μ σ) (ok : GOK σ) : MI (qsi μ (24, 0, 0) 33 (zI 0)) (rowS σ 0 (gR σ)) ∧ Fr isMd μ (qsi μ (24, 0, 0) 33 (zI 0)) := h.hd ok (Fr.si (Or.inl rfl)) (fun k _ a => by rw [qsi_get, if_neg (fun z => a z.2)]) (h.2.2.2.1.c (by rw [qsi_get, if_neg (by simp)]) (by rw [qsi_ne (by simp)])) ⟨qsi_self _ _ _ _, fun i hi => absurd hi (by omega)⟩
theorem GOK.clr {σ : GS} (ok : GOK σ) : GOK (rowS σ 0 (gR σ)) := ⟨ok.1, ok.2.1, ok.2.2.1, ok.2.2.2.1, ok.2.2.2.2.1, ok.2.2.2.2.2.1, Nat.zero_le _, fun i (hi : i < 0) => absurd hi (by omega)⟩
theorem op_clear {σ : GS} (ok : GOK σ) : OP 70 262 [] σ := by
  refine ⟨qI (zI (gK σ : Nat)), rowS σ 0 (gR σ), fun d μ h => ⟨_, ?_, h.clr⟩, fun d μ h => ⟨_, ?_, h.clr ok⟩, ok.clr⟩
  · rw [qe_J_clear, qb_J_clear_0, h.1.2.2.2.2.1.1, zI_of]
  · rw [qe_M_clear, qb_M_clear_0, h.2.2.2.2.1.1, zI_of]
/-- the first number that a purse is not -/
def jdg (w : Nat) (R : Nat → Nat) : Nat → AS → Nat → Int
  | 0, _, _ => -9
  | k + 1, s, i => if aD s < 83 then (if min (aP (dayS s) w 1) 99 = R i then jdg w R k (dayS s) (i + 1) else i) else i
theorem c_J_numberAt (d : Nat) {i : Nat} {μ : QM} {σ : GS} (h : CI μ σ) (ok : GOK σ) (hi : i < gK σ) : qcall qprogs (d + 1) 140 [qR (0, 0, 0), qI (zI (i : Nat))] μ = some (some (qI (zI (gR σ i : Nat))), μ) := by
  obtain ⟨p1, p2⟩ := h.1.2.2.2.2.1
  have h12 := ok.2.2.2.2.2.2.1
  rw [qe_J_numberAt, qb_J_numberAt_0, p1]
  simp only [zI_of]
  rw [if_neg (by rw [zI_0, zI_lt (by omega)]; omega), if_neg (by rw [zI_le (by omega)]; omega), if_neg (by rw [zI_le (by omega)]; omega), zI_oob (n := 12) (by omega), cond_false, show qix (zI (i : Nat)) = i from zI_ixN (by omega), p2 i hi, qb_J_numberAt_28]
theorem op_judge {σ : GS} (ok : GOK σ) {z1 : Int} (h1 : iB z1) : OP 71 261 [qI (zI z1)] σ := by
  have b1 := h1.1
  have b2 := h1.2
  have bD := ok.1.1
  have k12 := ok.2.2.2.2.2.2.1
  by_cases hz : z1 = 0 ∨ z1 = 1
  · obtain ⟨w, rfl, hw⟩ : ∃ w : Nat, z1 = w ∧ w < 2 := ⟨z1.toNat, by omega, by omega⟩
    refine ⟨qI (zI (jdg w (gR σ) (gK σ) (gS σ) 0)), rowS σ 0 (gR σ), fun d μ h => ?_, fun d μ h => ?_, ok.clr⟩
    · have L : ∀ (k : Nat) (s : AS) (i : Nat) (μ1 : QM), i + k = gK σ → aD s = aD (gS σ) + i → aOK s → RA μ1 1 s → CI μ1 σ → ∃ μ2, qx (d + 28) qc_J_firstMistold 13 [some (qR (0, 0, 0)), some (qI (zI (w : Nat))), some (qI (zI (i : Nat))), none] [] μ1 = some (some (qI (zI (jdg w (gR σ) k s i))), μ2) ∧ CI μ2 σ ∧ Fr isCl μ1 μ2 := by
        intro k
        induction k with
        | zero =>
          intro s i μ1 hi hD oks hA hC
          rw [qb_J_firstMistold_13, hC.1.2.2.2.2.1.1, if_pos (by rw [zI_le (by omega)]; omega), qb_J_firstMistold_81, zI_of]
          exact ⟨μ1, rfl, hC, Fr.rf⟩
        | succ k ih =>
          intro s i μ1 hi hD oks hA hC
          have o83 := oks.1
          rw [qb_J_firstMistold_13, hC.1.2.2.2.2.1.1, hC.1.1.day]
          simp only [zI_of, zI_add]
          rw [if_neg (by rw [zI_le (by omega)]; omega)]
          unfold jdg
          by_cases e : aD s < 83
          · obtain ⟨μ2, r1, r2, r3⟩ := c_Affair_liveTo (d + 24) (n := aD s + 1) (show 1 < 11 by decide) hA oks (by omega)
            rw [show aD s + 1 - aD s = 1 by omega] at r3
            have r3 : RA μ2 1 (dayS s) := r3
            have ci := hC.mind r2
            have okd := dayS_ok oks e
            have pb := (okd.p hw).2.1
            have rb := ok.2.2.2.2.2.2.2 i (by omega)
            rw [if_pos (by rw [zI_le (by omega)]; omega), if_pos e, qb_J_firstMistold_41, show ((aD (gS σ) : Nat) : Int) + 1 + (i : Nat) = ((aD s + 1 : Nat) : Int) by omega, r1, qbV_some, c_Affair_person (d + 27) (show 1 < 11 by decide) hw, qbR_some (qd3 (by decide) hw), c_J_numberAt (d + 27) ci.1 ok (by omega), qbI_some, r3.p 1 hw, zI_of]
            have em : (if zI (aP (dayS s) w 1 : Nat) < zI 99 then zI (aP (dayS s) w 1 : Nat) else zI 99) = zI (min (aP (dayS s) w 1) 99 : Nat) := by
              by_cases q : aP (dayS s) w 1 < 99
              · rw [if_pos (by rw [zI_lt (by omega)]; omega)]; exact zI_congr (by omega)
              · rw [if_neg (by rw [zI_lt (by omega)]; omega)]; exact zI_congr (by omega)
            rw [em]
            by_cases q : min (aP (dayS s) w 1) 99 = gR σ i
            · obtain ⟨μ3, x1, x2, x3⟩ := ih (dayS s) (i + 1) μ2 (by omega) (by rw [dayS_D]; omega) okd r3 ci.1
              rw [if_pos (by rw [q]), if_pos q, qb_J_firstMistold_75, zI_of, zI_add]
              exact ⟨μ3, x1, x2, ci.2.tr x3⟩
            · rw [if_neg (by rw [zI_eq (by omega)]; omega), if_neg q]
              exact ⟨μ2, rfl, ci.1, ci.2⟩
          · rw [if_neg (by rw [zI_le (by omega)]; omega), if_neg e]
            exact ⟨μ1, rfl, hC, Fr.rf⟩
      obtain ⟨μ1, r1, r2, r3, r4⟩ := j_mind (d + 26) h ok
      obtain ⟨μ2, q1, q2, q3⟩ := L (gK σ) (gS σ) 0 μ1 (by omega) rfl ok.1 r4 r2
      refine ⟨_, ?_, q2.clr.1, r3.tr (q3.tr q2.clr.2)⟩
      rw [qe_J_judge, qb_J_judge_0, c_J_isNobody (d + 28) h1, qbI_some, decide_eq_true hz, if_pos (by decide), qb_J_judge_13, qe_J_firstMistold, qb_J_firstMistold_0, r1, qbV_some]
      simp only [zI_of]
      rw [show zI (0 : Int) = zI ((0 : Nat) : Int) from rfl, q1, qbI_some]
    · have L : ∀ (k : Nat) (s : AS) (i : Nat) (μ0 μ1 : QM), MI μ0 (rowS σ 0 (gR σ)) → FrR μ0 μ1 → KS μ1 1 (gS σ) → (∀ i, i < gK σ → μ0.1 (45, 0, 0) i = zI (gR σ i : Nat)) → i + k = gK σ → aD s = aD (gS σ) + i → aOK s → RM μ1 s → ∃ μ2, qx (d + 29) qc_M_judge 35 [some (qR (24, 0, 0)), some (qI (zI (w : Nat))), some (qI (zI (gK σ : Nat))), some (qI (zI (-9))), some (qI (zI (i : Nat))), none] [] μ1 = some (some (qI (zI (jdg w (gR σ) k s i))), μ2) ∧ MI μ2 (rowS σ 0 (gR σ)) ∧ Fr isMd μ0 μ2 := by
        intro k
        induction k with
        | zero =>
          intro s i μ0 μ1 h0 f hK h45 hi hD oks hR
          obtain ⟨μ3, t1, t2, t3, -⟩ := m_putb1 (d + 27) h0 ok.clr f hK
          refine ⟨μ3, ?_, t2, t3⟩
          rw [qb_M_judge_35, if_pos (by rw [zI_le (by omega)]; omega), qb_M_judge_110]
          simp only [zI_of]
          rw [t1, qbV_some]
          rfl
        | succ k ih =>
          intro s i μ0 μ1 h0 f hK h45 hi hD oks hR
          have o83 := oks.1
          have out : ∀ μ2, FrR μ0 μ2 → KS μ2 1 (gS σ) → ∃ μ3, qx (d + 29) qc_M_judge 101 [some (qR (24, 0, 0)), some (qI (zI (w : Nat))), some (qI (zI (gK σ : Nat))), none, some (qI (zI (i : Nat))), none] [] μ2 = some (some (qI (zI (i : Nat))), μ3) ∧ MI μ3 (rowS σ 0 (gR σ)) ∧ Fr isMd μ0 μ3 := fun μ2 f2 k2 => by
            obtain ⟨μ3, t1, t2, t3, -⟩ := m_putb1 (d + 27) h0 ok.clr f2 k2
            refine ⟨μ3, ?_, t2, t3⟩
            rw [qb_M_judge_101, qb_M_judge_103, zI_of, zI_add, qb_M_judge_35]
            have g : qx (d + 29) qc_M_judge 110 [some (qR (24, 0, 0)), none, none, some (qI (zI (i : Nat))), none, none] [] μ2 = some (some (qI (zI (i : Nat))), μ3) := by
              rw [qb_M_judge_110]
              simp only [zI_of]
              rw [t1, qbV_some]
            by_cases q : gK σ ≤ i + 1
            · rw [if_pos (by rw [zI_le (by omega)]; omega), g]
            · rw [if_neg (by rw [zI_le (by omega)]; omega), if_pos (by rw [zI_0, zI_le (by omega)]; omega), g]
          rw [qb_M_judge_35, if_neg (by rw [zI_le (by omega)]; omega), if_neg (by decide +kernel), hR.day]
          simp only [zI_of]
          unfold jdg
          by_cases e : aD s < 83
          · obtain ⟨μ2, r1, r2, r3⟩ := c_M_goesOne (d + 24) hR oks
            have okd := dayS_ok oks e
            have pb := (okd.p hw).2.1
            have rb := ok.2.2.2.2.2.2.2 i (by omega)
            have f2 := f.tr r2.r
            have e45 : μ2.1 (45, 0, 0) i = zI (gR σ i : Nat) := by rw [f2.1.1 _ (by unfold isRd; simp)]; exact h45 i (by omega)
            rw [if_neg (by rw [zI_le (by omega)]; omega), qb_M_judge_59, if_neg (show ¬ zI 1 = 0 by decide +kernel), r1, qbV_some, qb_M_judge_70, if_neg (show ¬ zI 1 = 0 by decide +kernel), zI_oob (n := 2) (by omega), cond_false, show qix (zI (w : Nat)) = w from zI_ixN (by omega), r3.pu hw, zI_of, c_M_lesser (d + 28) (by omega), qbI_some, zI_oob (n := 12) (by omega), cond_false, show qix (zI (i : Nat)) = i from zI_ixN (by omega), e45, if_pos e]
            by_cases q : min (aP (dayS s) w 1) 99 = gR σ i
            · obtain ⟨μ3, x1, x2, x3⟩ := ih (dayS s) (i + 1) μ0 μ2 h0 f2 (hK.s r2) h45 (by omega) (by rw [dayS_D]; omega) okd r3
              rw [if_pos (by rw [zI_eq (by omega)]; omega), if_pos q, qb_M_judge_103]
              simp only [zI_of, zI_add]
              exact ⟨μ3, x1, x2, x3⟩
            · rw [if_neg (by rw [zI_eq (by omega)]; omega), if_neg q]
              exact out μ2 f2 (hK.s r2)
          · rw [if_pos (by rw [zI_le (by omega)]; omega), if_neg e, qb_M_judge_58, zI_of, qb_M_judge_59, if_pos zI0, qb_M_judge_70, if_pos zI0]
            exact out μ1 f hK
      have h0 := h.clr ok
      obtain ⟨μ1, r1, r2, r3, r4⟩ := m_keep1 (d + 27) h0.1 ok.clr
      obtain ⟨μ2, q1, q2, q3⟩ := L (gK σ) (gS σ) 0 _ μ1 h0.1 r4 r3 (fun i hi => by rw [qsi_ne (by simp)]; exact h.2.2.2.2.1.2 i hi) (by omega) rfl ok.1 r2
      refine ⟨μ2, ?_, q2, h0.2.tr q3⟩
      rw [qe_M_judge, qb_M_judge_0, c_M_isOne (d + 28) h1, qbI_some, decide_eq_true hz, if_neg (by decide), qb_M_judge_13, h.2.2.2.2.1.1]
      simp only [zI_of]
      rw [r1, qbV_some]
      exact q1
  · refine ⟨qI (zI (-1)), refS σ 1, fun d μ h => ?_, fun d μ h => ?_, ok.ref⟩
    · rw [qe_J_judge, qb_J_judge_0, c_J_isNobody (d + 28) h1, qbI_some, decide_eq_false hz, if_neg (by decide), zI_of]
      exact j_ref1 (d := d + 28) (f := -1) h (by decide)
    · rw [qe_M_judge, qb_M_judge_0, c_M_isOne (d + 28) h1, qbI_some, decide_eq_false hz, if_pos (by decide), zI_of]
      exact m_ref1 (d := d + 28) (f := -1) h (by decide)
end
