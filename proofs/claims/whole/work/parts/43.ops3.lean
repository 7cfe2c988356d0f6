/-! wasted, worth, streak, settled, the best weekday -/
theorem mk_cut {p : Nat → Bool} {N : Nat} (h : ∀ c, N ≤ c → p c = false) : ∀ k, mk p (N + k) = mk p N
  | 0 => rfl
  | k + 1 => by
    show mk p (N + k + 1) = mk p N
    rw [mk_f (h _ (by omega)), mk_cut h k]
/-- the causes without which as much can be laid out -/
def wsP (s : AS) (w m : Nat) (D : Nat → Nat) (c : Nat) : Bool := (unS s w).testBit c && decide (vW s m D m (nd (unS s w) (2 ^ c)) = vW s m D m (unS s w))
theorem un_bit {s : AS} {w c : Nat} (hc : c < aN s) : (unS s w).testBit c = (aX s c && decide (aC s c 2 = w)) := by unfold unS; rw [mk_bit, decide_eq_true hc, Bool.true_and]
theorem op_wasted {σ : GS} (ok : GOK σ) {z1 z2 : Int} (h1 : iB z1) (h2 : iB z2) : OP 78 204 [qI (zI z1), qI (zI z2)] σ := by
  have hr := fOne_r (z := z1) (fDay_r (gS σ) z2)
  have n12 := ok.1.2.1
  by_cases hf : fOne z1 (fDay (gS σ) z2) = 0
  · have hf0 := hf
    obtain ⟨⟨w, rfl, hw⟩, hd⟩ := fOne_0 hf
    obtain ⟨n, rfl, hn, hn2⟩ := fDay_0 hd
    refine ⟨qI (zI (mk (wsP (gS σ) w (nM (gS σ) w (aP (gS σ) w 0) n) (nD (gS σ) w (aP (gS σ) w 0))) 12 : Nat)), σ, fun d μ h => ?_, fun d μ h => ?_, ok⟩
    · obtain ⟨μ1, Q, r1, r2, r3, r4⟩ := j_prep (d + 24) h ok hw hn hn2
      obtain ⟨μ2, a1, a2, -⟩ := c_Plan_value (d + 13) hw r4 (fun c hc => unS_n hc)
      rw [qe_J_wasted, qb_J_wasted_0, c_J_faultOfOneAndDay (d + 27) h.1.1 ok.1 h1 h2, qbI_some, hf, if_pos zI0, qb_J_wasted_17, r1, qbR_some (qd5 hw), a1, qbI_some]
      have m12 := nM_le ok.1 (w := w) (wd := aP (gS σ) w 0) hn2
      generalize nM (gS σ) w (aP (gS σ) w 0) n = m at *
      generalize nD (gS σ) w (aP (gS σ) w 0) = D at *
      have L : ∀ k c μ3, c + k = 12 → FrB w μ1 μ3 → ∃ μ', qx (d + 29) qc_J_wasted 42 [none, none, none, none, some (qR (5, w, 0)), some (qI (zI (vW (gS σ) m D m (unS (gS σ) w) : Nat))), some (qI (zI (mk (wsP (gS σ) w m D) c : Nat))), some (qI (zI (c : Nat))), none] [] μ3 = some (some (qI (zI (mk (wsP (gS σ) w m D) 12 : Nat))), μ') ∧ FrB w μ1 μ' := by
        intro k
        induction k with
        | zero =>
          intro c μ3 hc fr
          rw [qb_J_wasted_42]
          simp (disch := omega) only [zI_of, zI_0, zI_1, zI_add, zI_sub, zI_mul, zI_neg, zI_lt, zI_le, zI_eq, zI_rem, zI_oob, zI_ixN, zI_ix, zI_ite, zI10, zI01, Int.toNat_natCast, cond_false, cond_true, q01_0, q01_1, q01_0z, q01_1z, qB_if, qB_ifz, qB_ret, qB_retz, qbI_some, qbV_some, qbL_some, qbR_some, qbN_some, qbN_none, true_or, or_true, false_or, or_false, if_true, if_false, Int.reduceEq, Int.reduceLT, Int.reduceLE, Int.reduceNeg, qb_J_wasted_91]
          rw [if_pos (by omega), show c = 12 by omega]
          exact ⟨μ3, rfl, fr⟩
        | succ k ih =>
          intro c μ3 hc fr
          have lt := p31 (mk_lt (wsP (gS σ) w m D) c) (by omega)
          have h4 := r4.b fr
          rw [qb_J_wasted_42, h4.2.2.1.2.1]
          simp (disch := omega) only [zI_of, zI_0, zI_1, zI_add, zI_sub, zI_mul, zI_neg, zI_lt, zI_le, zI_eq, zI_rem, zI_oob, zI_ixN, zI_ix, zI_ite, zI10, zI01, Int.toNat_natCast, cond_false, cond_true, q01_0, q01_1, q01_0z, q01_1z, qB_if, qB_ifz, qB_ret, qB_retz, qbI_some, qbV_some, qbL_some, qbR_some, qbN_some, qbN_none, true_or, or_true, false_or, or_false, if_true, if_false, Int.reduceEq, Int.reduceLT, Int.reduceLE, Int.reduceNeg, zI_31, zI_bit, zI_and, tb_if]
          rw [if_neg (by omega)]
          have skip : ∀ μ4, FrB w μ1 μ4 → wsP (gS σ) w m D c = false → ∃ μ', qx (d + 29) qc_J_wasted 85 [none, none, none, none, some (qR (5, w, 0)), some (qI (zI (vW (gS σ) m D m (unS (gS σ) w) : Nat))), some (qI (zI (mk (wsP (gS σ) w m D) c : Nat))), some (qI (zI (c : Nat))), none] [] μ4 = some (some (qI (zI (mk (wsP (gS σ) w m D) 12 : Nat))), μ') ∧ FrB w μ1 μ' := fun μ4 fr4 hb => by
            have i1 := ih (c + 1) μ4 (by omega) fr4
            rw [mk_f hb] at i1
            rw [qb_J_wasted_85]
            simp (disch := omega) only [zI_of, zI_0, zI_1, zI_add, zI_sub, zI_mul, zI_neg, zI_lt, zI_le, zI_eq, zI_rem, zI_oob, zI_ixN, zI_ix, zI_ite, zI10, zI01, Int.toNat_natCast, cond_false, cond_true, q01_0, q01_1, q01_0z, q01_1z, qB_if, qB_ifz, qB_ret, qB_retz, qbI_some, qbV_some, qbL_some, qbR_some, qbN_some, qbN_none, true_or, or_true, false_or, or_false, if_true, if_false, Int.reduceEq, Int.reduceLT, Int.reduceLE, Int.reduceNeg]
            exact i1
          cases hb : (unS (gS σ) w).testBit c
          · exact skip μ3 fr (by unfold wsP; rw [hb]; rfl)
          · obtain ⟨μ4, b1, b2⟩ := c_Plan_valueWithout (d + 13) (b := 2 ^ c) hw h4 (fun c hc => unS_n hc)
            have v1 := vW_le ok.1 (m := m) (D := D) (r := m) (S := nd (unS (gS σ) w) (2 ^ c)) m12
            have v2 := vW_le ok.1 (m := m) (D := D) (r := m) (S := unS (gS σ) w) m12
            rw [cond_true, b1, qbI_some]
            by_cases e : vW (gS σ) m D m (nd (unS (gS σ) w) (2 ^ c)) = vW (gS σ) m D m (unS (gS σ) w)
            · have i1 := ih (c + 1) μ4 (by omega) (fr.tr b2)
              rw [mk_t (by unfold wsP; rw [hb, decide_eq_true e]; rfl)] at i1
              rw [if_pos (by rw [e]), qb_J_wasted_85]
              simp (disch := omega) only [zI_of, zI_0, zI_1, zI_add, zI_sub, zI_mul, zI_neg, zI_lt, zI_le, zI_eq, zI_rem, zI_oob, zI_ixN, zI_ix, zI_ite, zI10, zI01, Int.toNat_natCast, cond_false, cond_true, q01_0, q01_1, q01_0z, q01_1z, qB_if, qB_ifz, qB_ret, qB_retz, qbI_some, qbV_some, qbL_some, qbR_some, qbN_some, qbN_none, true_or, or_true, false_or, or_false, if_true, if_false, Int.reduceEq, Int.reduceLT, Int.reduceLE, Int.reduceNeg, zI_or, mk_or]
              exact i1
            · rw [if_neg (by rw [zI_eq (by omega)]; omega)]
              exact skip μ4 (fr.tr b2) (by unfold wsP; rw [decide_eq_false e, Bool.and_false])
      obtain ⟨μ', x1, x2⟩ := L 12 0 μ2 (by omega) a2
      have ci := r2.pp x2.pl (r4.b x2)
      rw [zI_of]
      exact ⟨μ', x1, ci.1, r3.tr ci.2⟩
    · obtain ⟨μ1, r1, r2, p1, p2, p3, p4⟩ := c_M_findLaid (d + 24) h.1 ok.1 hw hn hn2
      rw [qe_M_wasted, qb_M_wasted_0, c_M_notWho (d + 27) h.1 ok.1 h1 h2, qbI_some, hf, if_pos zI0, qb_M_wasted_17, r1, qbV_some]
      have m12 := nM_le ok.1 (w := w) (wd := aP (gS σ) w 0) hn2
      generalize nM (gS σ) w (aP (gS σ) w 0) n = m at *
      generalize nD (gS σ) w (aP (gS σ) w 0) = D at *
      have hR := h.1.q r2
      have bo := p4 0 (Nat.zero_le _) _ (Nat.and_self _)
      rw [Nat.mul_zero, Nat.zero_add, Nat.sub_zero, ← own_un n12 _ (Nat.le_refl _)] at bo
      have L : ∀ k c, c + k = aN (gS σ) → qx (d + 29) qc_M_wasted 29 [some (qR (24, 0, 0)), some (qI (zI (w : Nat))), none, none, some (qI (zI (mk (wsP (gS σ) w m D) c : Nat))), some (qI (zI (c : Nat)))] [] μ1 = some (some (qI (zI (mk (wsP (gS σ) w m D) (aN (gS σ)) : Nat))), μ1) := by
        intro k
        induction k with
        | zero =>
          intro c hc
          rw [qb_M_wasted_29, hR.cnt]
          simp (disch := omega) only [zI_of, zI_0, zI_1, zI_add, zI_sub, zI_mul, zI_neg, zI_lt, zI_le, zI_eq, zI_rem, zI_oob, zI_ixN, zI_ix, zI_ite, zI10, zI01, Int.toNat_natCast, cond_false, cond_true, q01_0, q01_1, q01_0z, q01_1z, qB_if, qB_ifz, qB_ret, qB_retz, qbI_some, qbV_some, qbL_some, qbR_some, qbN_some, qbN_none, true_or, or_true, false_or, or_false, if_true, if_false, Int.reduceEq, Int.reduceLT, Int.reduceLE, Int.reduceNeg, qb_M_wasted_106]
          rw [if_pos (by omega), show c = aN (gS σ) by omega]
        | succ k ih =>
          intro c hc
          have hcn : c < aN (gS σ) := by omega
          have b2 := (ok.1.c hcn).2.2.1
          have b4 := (ok.1.c hcn).2.2.2.2
          have lt := p31 (mk_lt (wsP (gS σ) w m D) c) (by omega)
          have i1 := ih (c + 1) (by omega)
          have ew : wsP (gS σ) w m D c = (aX (gS σ) c && decide (aC (gS σ) c 2 = w) && decide (vW (gS σ) m D m (nd (unS (gS σ) w) (2 ^ c)) = vW (gS σ) m D m (unS (gS σ) w))) := by unfold wsP; rw [un_bit hcn]
          have bx := p4 0 (Nat.zero_le _) (nd (ownS (gS σ) w m D) (2 ^ c)) (sub_of fun x hx => nd_sub hx)
          rw [Nat.mul_zero, Nat.zero_add, Nat.sub_zero, ← own_all n12 _ _ (Nat.le_refl _)] at bx
          have nl := nd_le (ownS (gS σ) w m D) (2 ^ c)
          have v1 := vW_le ok.1 (m := m) (D := D) (r := m) (S := nd (unS (gS σ) w) (2 ^ c)) m12
          have v2 := vW_le ok.1 (m := m) (D := D) (r := m) (S := unS (gS σ) w) m12
          have skip : wsP (gS σ) w m D c = false → qx (d + 29) qc_M_wasted 96 [some (qR (24, 0, 0)), some (qI (zI (w : Nat))), none, none, none, some (qI (zI (c : Nat)))] [qI (zI (mk (wsP (gS σ) w m D) c : Nat))] μ1 = some (some (qI (zI (mk (wsP (gS σ) w m D) (aN (gS σ)) : Nat))), μ1) := fun hb => by
            rw [mk_f hb] at i1
            rw [qb_M_wasted_96, qb_M_wasted_97, zI_of, zI_of, show zI (0 : Int) = zI ((0 : Nat) : Int) from rfl, zI_or, Nat.or_zero, zI_add]
            exact i1
          rw [qb_M_wasted_29, hR.cnt, p2]
          simp (disch := omega) only [zI_of, zI_0, zI_1, zI_add, zI_sub, zI_mul, zI_neg, zI_lt, zI_le, zI_eq, zI_rem, zI_oob, zI_ixN, zI_ix, zI_ite, zI10, zI01, Int.toNat_natCast, cond_false, cond_true, q01_0, q01_1, q01_0z, q01_1z, qB_if, qB_ifz, qB_ret, qB_retz, qbI_some, qbV_some, qbL_some, qbR_some, qbN_some, qbN_none, true_or, or_true, false_or, or_false, if_true, if_false, Int.reduceEq, Int.reduceLT, Int.reduceLE, Int.reduceNeg, zI_31, zI_bit, zI_nd, hR.wh hcn, hR.us hcn, bx, bo]
          rw [if_neg (by omega)]
          by_cases e2 : aC (gS σ) c 2 = w
          · rw [if_pos (by omega)]
            by_cases e4 : aC (gS σ) c 4 = 0
            · rw [if_pos (by omega)]
              by_cases e : vW (gS σ) m D m (nd (unS (gS σ) w) (2 ^ c)) = vW (gS σ) m D m (unS (gS σ) w)
              · rw [if_pos (by omega), qb_M_wasted_97]
                rw [mk_t (by rw [ew]; simp [aX, e4, e2, e])] at i1
                simp (disch := omega) only [zI_of, zI_0, zI_1, zI_add, zI_sub, zI_mul, zI_neg, zI_lt, zI_le, zI_eq, zI_rem, zI_oob, zI_ixN, zI_ix, zI_ite, zI10, zI01, Int.toNat_natCast, cond_false, cond_true, q01_0, q01_1, q01_0z, q01_1z, qB_if, qB_ifz, qB_ret, qB_retz, qbI_some, qbV_some, qbL_some, qbR_some, qbN_some, qbN_none, true_or, or_true, false_or, or_false, if_true, if_false, Int.reduceEq, Int.reduceLT, Int.reduceLE, Int.reduceNeg, zI_or, mk_or]
                exact i1
              · rw [if_neg (by omega)]
                exact skip (by rw [ew]; simp [e])
            · rw [if_neg (by omega)]
              exact skip (by rw [ew]; simp [aX, e4])
          · rw [if_neg (by omega)]
            exact skip (by rw [ew]; simp [e2])
      have ecut : mk (wsP (gS σ) w m D) 12 = mk (wsP (gS σ) w m D) (aN (gS σ)) := by
        rw [show 12 = aN (gS σ) + (12 - aN (gS σ)) by omega]
        exact mk_cut (fun c hc => by
          unfold wsP
          cases hb : (unS (gS σ) w).testBit c
          · rfl
          · exact absurd (unS_n hb) (by omega)) _
      rw [ecut, zI_of]
      exact ⟨μ1, L (aN (gS σ)) 0 (by omega), h.q ok r2, r2.r.md⟩
  ·
    have hr2 : -6 ≤ fOne z1 (fDay (gS σ) z2) ∧ fOne z1 (fDay (gS σ) z2) ≤ -1 := by omega
    refine ⟨qI (zI (fOne z1 (fDay (gS σ) z2))), refS σ (-(fOne z1 (fDay (gS σ) z2))).toNat, fun d μ h => ?_, fun d μ h => ?_, ok.ref⟩
    · rw [qe_J_wasted, qb_J_wasted_0, c_J_faultOfOneAndDay (d + 27) h.1.1 ok.1 h1 h2, qbI_some, if_neg (zI_n0 hr2)]
      obtain ⟨μ9, r1, r2, r3⟩ := c_J_refuse (d + 28) h hr2
      exact ⟨μ9, by simp only [r1, qbI_some], r2, r3⟩
    · rw [qe_M_wasted, qb_M_wasted_0, c_M_notWho (d + 27) h.1 ok.1 h1 h2, qbI_some, if_neg (zI_n0 hr2)]
      obtain ⟨μ9, r1, r2, r3⟩ := c_M_no (d + 28) h hr2
      exact ⟨μ9, by simp only [r1, qbI_some], r2, r3⟩
theorem c_M_isCause (d : Nat) {z : Int} {s : AS} {μ : QM} (h : RM μ s) (ok : aOK s) (hz : iB z) : qcall qprogs (d + 1) 160 [qR (24, 0, 0), qI (zI z)] μ = some (some (qI (qB (decide (0 ≤ z ∧ z < aN s)))), μ) := by
  have b := ok.2.1
  have h1 := hz.1
  have h2 := hz.2
  rw [qe_M_isCause, qb_M_isCause_0, h.cnt]
  simp (disch := omega) only [zI_of, zI_0, zI_1, zI_add, zI_sub, zI_mul, zI_neg, zI_lt, zI_le, zI_eq, zI_rem, zI_oob, zI_ixN, zI_ix, zI_ite, zI10, zI01, Int.toNat_natCast, cond_false, cond_true, q01_0, q01_1, q01_0z, q01_1z, qB_if, qB_ifz, qB_ret, qB_retz, qbI_some, qbV_some, qbL_some, qbR_some, qbN_some, qbN_none, true_or, or_true, false_or, or_false, if_true, if_false, Int.reduceEq, Int.reduceLT, Int.reduceLE, Int.reduceNeg, qb_M_isCause_16, qb_M_isCause_17]
  by_cases e1 : z < 0
  · rw [if_pos e1]; have : ¬ (0 ≤ z) := by omega
    simp [this, qB]
  · by_cases e2 : z < aN s
    · rw [if_neg e1, if_neg (by omega)]; have : 0 ≤ z ∧ z < aN s := by omega
      simp [this, qB]
    · rw [if_neg e1, if_pos (by omega)]
      simp [e2, qB]
theorem op_worth {σ : GS} (ok : GOK σ) {z1 z2 : Int} (h1 : iB z1) (h2 : iB z2) : OP 79 205 [qI (zI z1), qI (zI z2)] σ := by
  have n12 := ok.1.2.1
  have bD := ok.1.1
  have b1 := h2.1
  have b2 := h2.2
  by_cases a : 0 ≤ z1 ∧ z1 < aN (gS σ)
  · obtain ⟨c, rfl, hc⟩ : ∃ c : Nat, z1 = c ∧ c < aN (gS σ) := ⟨z1.toNat, by omega, by omega⟩
    have b2 := (ok.1.c hc).2.2.1
    have b4 := (ok.1.c hc).2.2.2.2
    have eJ : ∀ d μ, CI μ σ → qcall qprogs (d + 30) 79 [qR (0, 0, 0), qI (zI (c : Nat)), qI (zI z2)] μ = qx (d + 29) qc_J_worth 19 [some (qR (0, 0, 0)), some (qI (zI (c : Nat))), some (qI (zI z2)), some (qR (1, 0, c)), none, none] [] μ := fun d μ h => by
      rw [qe_J_worth, qb_J_worth_0, c_Affair_causeAt (d + 28) (show 0 < 11 by decide) h.1.1 ok.1 hc, qbN_some (qd1 (by decide) (by omega))]
    have eM : ∀ d μ, MI μ σ → qcall qprogs (d + 30) 205 [qR (24, 0, 0), qI (zI (c : Nat)), qI (zI z2)] μ = qx (d + 29) qc_M_worth 12 [some (qR (24, 0, 0)), some (qI (zI (c : Nat))), some (qI (zI z2)), none] [] μ := fun d μ h => by
      rw [qe_M_worth, qb_M_worth_0, c_M_isCause (d + 28) h.1 ok.1 h1, qbI_some, decide_eq_true a, if_neg (by decide)]
    by_cases e4 : aC (gS σ) c 4 = 0
    · have eJ2 : ∀ d μ, CI μ σ → qcall qprogs (d + 30) 79 [qR (0, 0, 0), qI (zI (c : Nat)), qI (zI z2)] μ = qx (d + 29) qc_J_worth 33 [some (qR (0, 0, 0)), some (qI (zI (c : Nat))), some (qI (zI z2)), some (qR (1, 0, c)), none, none] [] μ := fun d μ h => by
        rw [eJ d μ h, qb_J_worth_19, h.1.1.c 4 hc, qbz_z b4, e4, if_pos (by decide)]
      have eM2 : ∀ d μ, MI μ σ → qcall qprogs (d + 30) 205 [qR (24, 0, 0), qI (zI (c : Nat)), qI (zI z2)] μ = qx (d + 29) qc_M_worth 37 [some (qR (24, 0, 0)), some (qI (zI (c : Nat))), some (qI (zI z2)), none] [qI (zI (fDay (gS σ) z2))] μ := fun d μ h => by
        rw [eM d μ h, qb_M_worth_12, zI_oob (n := 12) (by omega), cond_false, show qix (zI (c : Nat)) = c from zI_ixN (by omega), h.1.us hc, e4, if_neg (by decide), qb_M_worth_27, h.1.day, zI_of, c_M_bound (d + 28) (by omega), qbI_some]
        rfl
      have hr := fDay_r (gS σ) z2
      by_cases hf : fDay (gS σ) z2 = 0
      · obtain ⟨n, rfl, hn, hn2⟩ := fDay_0 hf
        have hw : aC (gS σ) c 2 < 2 := by omega
        refine ⟨qI (zI ((lV (gS σ) (aC (gS σ) c 2) (aP (gS σ) (aC (gS σ) c 2) 0) n : Nat) - (vW (gS σ) (nM (gS σ) (aC (gS σ) c 2) (aP (gS σ) (aC (gS σ) c 2) 0) n) (nD (gS σ) (aC (gS σ) c 2) (aP (gS σ) (aC (gS σ) c 2) 0)) (nM (gS σ) (aC (gS σ) c 2) (aP (gS σ) (aC (gS σ) c 2) 0) n) (nd (unS (gS σ) (aC (gS σ) c 2)) (2 ^ c)) : Nat) : Int)), σ, fun d μ h => ?_, fun d μ h => ?_, ok⟩
        · rw [eJ2 d μ h, qb_J_worth_33, c_J_faultOfDay (d + 28) h.1.1 ok.1 h2, qbI_some, hf, if_pos zI0, qb_J_worth_52, h.1.1.c 2 hc]
          generalize aC (gS σ) c 2 = w at *
          obtain ⟨μ1, Q, r1, r2, r3, r4⟩ := j_prep (d + 24) h ok hw hn hn2
          obtain ⟨μ2, a1, a2, -⟩ := c_Plan_value (d + 13) hw r4 (fun c hc => unS_n hc)
          obtain ⟨μ3, a3, a4⟩ := c_Plan_valueWithout (d + 13) (b := 2 ^ c) hw (r4.b a2) (fun c hc => unS_n hc)
          have ci := r2.pp (a2.tr a4).pl (r4.b (a2.tr a4))
          rw [r1, qbR_some (qd5 hw), a1, qbI_some]
          rw [show Int32.ofInt 1 <<< (zI (c : Nat) &&& 31) = zI ((2 ^ c : Nat) : Int) by rw [zI_of, zI_31, zI_bit (by omega)], a3, qbI_some, zI_sub]
          exact ⟨μ3, rfl, ci.1, r3.tr ci.2⟩
        · rw [eM2 d μ h, qb_M_worth_37, hf, if_pos zI0, qb_M_worth_48, zI_oob (n := 12) (by omega), cond_false, show qix (zI (c : Nat)) = c from zI_ixN (by omega), h.1.wh hc]
          generalize aC (gS σ) c 2 = w at *
          obtain ⟨μ1, r1, r2, p1, p2, p3, p4⟩ := c_M_findLaid (d + 24) h.1 ok.1 hw hn hn2
          have bo := p4 0 (Nat.zero_le _) _ (Nat.and_self _)
          rw [Nat.mul_zero, Nat.zero_add, Nat.sub_zero, ← own_un n12 _ (Nat.le_refl _)] at bo
          have bx := p4 0 (Nat.zero_le _) (nd (ownS (gS σ) w (nM (gS σ) w (aP (gS σ) w 0) n) (nD (gS σ) w (aP (gS σ) w 0))) (2 ^ c)) (sub_of fun x hx => nd_sub hx)
          rw [Nat.mul_zero, Nat.zero_add, Nat.sub_zero, ← own_all n12 _ _ (Nat.le_refl _)] at bx
          have nl := nd_le (ownS (gS σ) w (nM (gS σ) w (aP (gS σ) w 0) n) (nD (gS σ) w (aP (gS σ) w 0))) (2 ^ c)
          rw [r1, qbV_some, p2]
          simp (disch := omega) only [zI_of, zI_0, zI_1, zI_add, zI_sub, zI_mul, zI_neg, zI_lt, zI_le, zI_eq, zI_rem, zI_oob, zI_ixN, zI_ix, zI_ite, zI10, zI01, Int.toNat_natCast, cond_false, cond_true, q01_0, q01_1, q01_0z, q01_1z, qB_if, qB_ifz, qB_ret, qB_retz, qbI_some, qbV_some, qbL_some, qbR_some, qbN_some, qbN_none, true_or, or_true, false_or, or_false, if_true, if_false, Int.reduceEq, Int.reduceLT, Int.reduceLE, Int.reduceNeg, zI_31, zI_bit, zI_nd, bx, bo]
          exact ⟨μ1, rfl, h.q ok r2, r2.r.md⟩
      ·
        have hr2 : -6 ≤ fDay (gS σ) z2 ∧ fDay (gS σ) z2 ≤ -1 := by omega
        refine ⟨qI (zI (fDay (gS σ) z2)), refS σ (-(fDay (gS σ) z2)).toNat, fun d μ h => ?_, fun d μ h => ?_, ok.ref⟩
        · rw [eJ2 d μ h, qb_J_worth_33, c_J_faultOfDay (d + 28) h.1.1 ok.1 h2, qbI_some, if_neg (zI_n0 hr2)]
          obtain ⟨μ9, r1, r2, r3⟩ := c_J_refuse (d + 28) h hr2
          exact ⟨μ9, by simp only [r1, qbI_some], r2, r3⟩
        · rw [eM2 d μ h, qb_M_worth_37, if_neg (zI_n0 hr2)]
          obtain ⟨μ9, r1, r2, r3⟩ := c_M_no (d + 28) h hr2
          exact ⟨μ9, by simp only [r1, qbI_some], r2, r3⟩
    · refine ⟨qI (zI (-3)), refS σ 3, fun d μ h => ?_, fun d μ h => ?_, ok.ref⟩
      · rw [eJ d μ h, qb_J_worth_19, h.1.1.c 4 hc, qbz_z b4, if_neg (by rw [zI_0, zI_eq (by omega)]; omega), zI_of]
        exact j_ref1 (d := d + 28) h (by decide)
      · rw [eM d μ h, qb_M_worth_12, zI_oob (n := 12) (by omega), cond_false, show qix (zI (c : Nat)) = c from zI_ixN (by omega), h.1.us hc, if_pos (by rw [zI_of, zI_eq (by omega)]; omega), qb_M_worth_37, zI_of, if_neg (by decide)]
        exact m_ref1 (d := d + 28) h (by decide)
  · refine ⟨qI (zI (-1)), refS σ 1, fun d μ h => ?_, fun d μ h => ?_, ok.ref⟩
    · rw [qe_J_worth, qb_J_worth_0, c_Affair_causeAtN (d + 28) (show 0 < 11 by decide) h.1.1 ok.1 (by rw [zI_int h1.1 h1.2]; omega), qbN_none, zI_of]
      exact j_ref1 (d := d + 28) h (by decide)
    · rw [qe_M_worth, qb_M_worth_0, c_M_isCause (d + 28) h.1 ok.1 h1, qbI_some, decide_eq_false a, if_pos (by decide), qb_M_worth_37, zI_of, if_neg (by decide)]
      exact m_ref1 (d := d + 28) h (by decide)
theorem qB_ne {x v : Bool} (h : ¬ x = v) : ¬ qB x = qB v := by cases x <;> cases v <;> first | exact absurd rfl h | decide +kernel
theorem op_streak {σ : GS} (ok : GOK σ) {z1 z2 z3 : Int} (h1 : iB z1) (h2 : iB z2) (h3 : iB z3) : OP 96 247 [qI (zI z1), qI (zI z2), qI (zI z3)] σ := by
  have hr0 := fOne_r (z := z1) (fDay_r (gS σ) z2)
  have hr := fWh_r (z := z3) (m := 1) hr0
  have n12 := ok.1.2.1
  have st : ∀ d μ, MI μ σ → qcall qprogs (d + 30) 247 [qR (24, 0, 0), qI (zI z1), qI (zI z2), qI (zI z3)] μ = qx (d + 29) qc_M_streak 26 [some (qR (24, 0, 0)), some (qI (zI z1)), some (qI (zI z2)), some (qI (zI z3)), some (qI (zI (fWh (fOne z1 (fDay (gS σ) z2)) z3 1))), none, none, none] [] μ := fun d μ h => by
    rw [qe_M_streak, qb_M_streak_0, c_M_notWho (d + 27) h.1 ok.1 h1 h2, qbI_some]
    unfold fWh
    by_cases e : fOne z1 (fDay (gS σ) z2) = 0
    · rw [e, if_pos zI0, if_pos rfl, zI_of 0, zI_of, c_M_isIn (d + 28) (by unfold iB at *; omega), qbI_some, qB_if]
      by_cases e2 : 0 ≤ z3 ∧ z3 ≤ 1
      · rw [show (decide ((0 : Int) ≤ z3) && decide (z3 ≤ 1)) = true by simp [e2], cond_true, if_pos e2]
      · rw [show (decide ((0 : Int) ≤ z3) && decide (z3 ≤ 1)) = false by rw [← Bool.decide_and]; exact decide_eq_false e2, cond_false, if_neg e2, zI_of]
    · rw [if_neg (zI_n0 (by omega)), if_neg e]
  by_cases hf : fWh (fOne z1 (fDay (gS σ) z2)) z3 1 = 0
  · have hf0 := hf
    obtain ⟨hf1, hz0, hz1⟩ := fWh_0 hf
    obtain ⟨⟨w, rfl, hw⟩, hd⟩ := fOne_0 hf1
    obtain ⟨n, rfl, hn, hn2⟩ := fDay_0 hd
    have m12 := nM_le ok.1 (w := w) (wd := aP (gS σ) w 0) hn2
    refine ⟨qI (zI ((lgs (fun i => (hH (gS σ) w (nD (gS σ) w (aP (gS σ) w 0)) i).isSome == decide (z3 = 0)) (nM (gS σ) w (aP (gS σ) w 0) n)).2 : Nat)), σ, fun d μ h => ?_, fun d μ h => ?_, ok⟩
    · rw [qe_J_streak, qb_J_streak_0, zI_of, c_J_faultOfOneDayWhat (d + 26) 1 h.1.1 ok.1 h1 h2 h3 (by omega), qbI_some, hf, if_pos zI0, qb_J_streak_22]
      obtain ⟨μ1, Q, r1, r2, r3, r4⟩ := j_prep (d + 24) h ok hw hn hn2
      obtain ⟨μ2, q1, q2, q3⟩ := c_Plan_layByHand (d + 27) hw ok.1 r4
      have r5 := r4.h q2
      have ci := r2.pp q2.pl r5
      rw [r1, qbR_some (qd5 hw), q1, qbV_some]
      by_cases e : z3 = 0
      · rw [if_pos (by rw [e]; exact zI0), qb_J_streak_50, zI_of, show zI 1 = qB true from rfl, c_Plan_longestByHand (d + 28) true hw ok.1 r5.1 q3, qbI_some, decide_eq_true e]
        exact ⟨μ2, rfl, ci.1, r3.tr ci.2⟩
      · rw [if_neg (by rw [zI_0, zI_eq (by omega)]; exact e), qb_J_streak_49, qb_J_streak_50, zI_of, show zI 0 = qB false from rfl, c_Plan_longestByHand (d + 28) false hw ok.1 r5.1 q3, qbI_some, decide_eq_false e]
        exact ⟨μ2, rfl, ci.1, r3.tr ci.2⟩
    · obtain ⟨μ1, r1, r2, r3, r4⟩ := c_M_findHand (d + 24) h.1 ok.1 hw hn hn2
      generalize nM (gS σ) w (aP (gS σ) w 0) n = m at *
      generalize nD (gS σ) w (aP (gS σ) w 0) = D at *
      generalize hv : decide (z3 = 0) = v at *
      have L : ∀ k i, i + k = m → qx (d + 29) qc_M_streak 53 [some (qR (24, 0, 0)), none, none, some (qI (zI z3)), none, some (qI (zI ((lgs (fun i => (hH (gS σ) w D i).isSome == v) i).1 : Nat))), some (qI (zI ((lgs (fun i => (hH (gS σ) w D i).isSome == v) i).2 : Nat))), some (qI (zI (i : Nat)))] [] μ1 = some (some (qI (zI ((lgs (fun i => (hH (gS σ) w D i).isSome == v) m).2 : Nat))), μ1) := by
        intro k
        induction k with
        | zero =>
          intro i hi
          rw [qb_M_streak_53, r3.2.1]
          simp (disch := omega) only [zI_of, zI_0, zI_1, zI_add, zI_sub, zI_mul, zI_neg, zI_lt, zI_le, zI_eq, zI_rem, zI_oob, zI_ixN, zI_ix, zI_ite, zI10, zI01, Int.toNat_natCast, cond_false, cond_true, q01_0, q01_1, q01_0z, q01_1z, qB_if, qB_ifz, qB_ret, qB_retz, qbI_some, qbV_some, qbL_some, qbR_some, qbN_some, qbN_none, true_or, or_true, false_or, or_false, if_true, if_false, Int.reduceEq, Int.reduceLT, Int.reduceLE, Int.reduceNeg, qb_M_streak_121]
          rw [if_pos (by omega), show i = m by omega]
        | succ k ih =>
          intro i hi
          have i1 := ih (i + 1) (by omega)
          have bl := lgs_le (b := fun i => (hH (gS σ) w D i).isSome == v) i
          have vv := r4 i (by omega)
          have two : ∀ x : Bool, x = (hH (gS σ) w D i).isSome → qx (d + 29) qc_M_streak 77 [some (qR (24, 0, 0)), none, none, some (qI (zI z3)), none, some (qI (zI ((lgs (fun i => (hH (gS σ) w D i).isSome == v) i).1 : Nat))), some (qI (zI ((lgs (fun i => (hH (gS σ) w D i).isSome == v) i).2 : Nat))), some (qI (zI (i : Nat)))] [qI (qB x)] μ1 = some (some (qI (zI ((lgs (fun i => (hH (gS σ) w D i).isSome == v) m).2 : Nat))), μ1) := fun x hx => by
            rw [lgs_s, ← hx] at i1
            generalize lgs (fun i => (hH (gS σ) w D i).isSome == v) i = R at *
            obtain ⟨a, b⟩ := R
            dsimp only at *
            have three : qx (d + 29) qc_M_streak 86 [some (qR (24, 0, 0)), none, none, some (qI (zI z3)), none, some (qI (zI (a : Nat))), some (qI (zI (b : Nat))), some (qI (zI (i : Nat)))] [qI (qB (v)), qI (qB x)] μ1 = some (some (qI (zI ((lgs (fun i => (hH (gS σ) w D i).isSome == v) m).2 : Nat))), μ1) := by
              rw [qb_M_streak_86]
              by_cases e : x = v
              · rw [if_pos (by rw [e]), qb_M_streak_97]
                rw [show (x == v) = true by rw [e]; simp, cond_true] at i1
                simp (disch := omega) only [zI_of, zI_0, zI_1, zI_add, zI_sub, zI_mul, zI_neg, zI_lt, zI_le, zI_eq, zI_rem, zI_oob, zI_ixN, zI_ix, zI_ite, zI10, zI01, Int.toNat_natCast, cond_false, cond_true, q01_0, q01_1, q01_0z, q01_1z, qB_if, qB_ifz, qB_ret, qB_retz, qbI_some, qbV_some, qbL_some, qbR_some, qbN_some, qbN_none, true_or, or_true, false_or, or_false, if_true, if_false, Int.reduceEq, Int.reduceLT, Int.reduceLE, Int.reduceNeg]
                by_cases q : a + 1 ≤ b
                · rw [if_pos (by omega), qb_M_streak_111, qb_M_streak_113]
                  rw [Nat.max_eq_left q] at i1
                  simp (disch := omega) only [zI_of, zI_0, zI_1, zI_add, zI_sub, zI_mul, zI_neg, zI_lt, zI_le, zI_eq, zI_rem, zI_oob, zI_ixN, zI_ix, zI_ite, zI10, zI01, Int.toNat_natCast, cond_false, cond_true, q01_0, q01_1, q01_0z, q01_1z, qB_if, qB_ifz, qB_ret, qB_retz, qbI_some, qbV_some, qbL_some, qbR_some, qbN_some, qbN_none, true_or, or_true, false_or, or_false, if_true, if_false, Int.reduceEq, Int.reduceLT, Int.reduceLE, Int.reduceNeg]
                  exact i1
                · rw [if_neg (by omega), qb_M_streak_113]
                  rw [Nat.max_eq_right (by omega)] at i1
                  simp (disch := omega) only [zI_of, zI_0, zI_1, zI_add, zI_sub, zI_mul, zI_neg, zI_lt, zI_le, zI_eq, zI_rem, zI_oob, zI_ixN, zI_ix, zI_ite, zI10, zI01, Int.toNat_natCast, cond_false, cond_true, q01_0, q01_1, q01_0z, q01_1z, qB_if, qB_ifz, qB_ret, qB_retz, qbI_some, qbV_some, qbL_some, qbR_some, qbN_some, qbN_none, true_or, or_true, false_or, or_false, if_true, if_false, Int.reduceEq, Int.reduceLT, Int.reduceLE, Int.reduceNeg]
                  exact i1
              · rw [if_neg (qB_ne e), qb_M_streak_96, qb_M_streak_97]
                rw [show (x == v) = false by simpa using e, cond_false] at i1
                simp (disch := omega) only [zI_of, zI_0, zI_1, zI_add, zI_sub, zI_mul, zI_neg, zI_lt, zI_le, zI_eq, zI_rem, zI_oob, zI_ixN, zI_ix, zI_ite, zI10, zI01, Int.toNat_natCast, cond_false, cond_true, q01_0, q01_1, q01_0z, q01_1z, qB_if, qB_ifz, qB_ret, qB_retz, qbI_some, qbV_some, qbL_some, qbR_some, qbN_some, qbN_none, true_or, or_true, false_or, or_false, if_true, if_false, Int.reduceEq, Int.reduceLT, Int.reduceLE, Int.reduceNeg]
                rw [if_pos (by omega), qb_M_streak_111, qb_M_streak_113]
                rw [Nat.max_eq_left (by omega)] at i1
                simp (disch := omega) only [zI_of, zI_0, zI_1, zI_add, zI_sub, zI_mul, zI_neg, zI_lt, zI_le, zI_eq, zI_rem, zI_oob, zI_ixN, zI_ix, zI_ite, zI10, zI01, Int.toNat_natCast, cond_false, cond_true, q01_0, q01_1, q01_0z, q01_1z, qB_if, qB_ifz, qB_ret, qB_retz, qbI_some, qbV_some, qbL_some, qbR_some, qbN_some, qbN_none, true_or, or_true, false_or, or_false, if_true, if_false, Int.reduceEq, Int.reduceLT, Int.reduceLE, Int.reduceNeg]
                exact i1
            rw [qb_M_streak_77]
            by_cases e : z3 = 0
            · rw [if_pos (by rw [e]; exact zI0), zI_of]
              have hv2 : v = true := by rw [← hv]; exact decide_eq_true e
              subst hv2
              exact three
            · rw [if_neg (by rw [zI_0, zI_eq (by omega)]; exact e), qb_M_streak_85, zI_of]
              have hv2 : v = false := by rw [← hv]; exact decide_eq_false e
              subst hv2
              exact three
          rw [qb_M_streak_53, r3.2.1, if_neg (by rw [zI_le (by omega)]; omega), zI_oob (n := 12) (by omega), cond_false, show qix (zI (i : Nat)) = i from zI_ixN (by omega), vv, onM_lt _ _ (fun b hb => by have := hH_lt hb; omega)]
          by_cases e : hH (gS σ) w D i = none
          · rw [if_pos e, qb_M_streak_76, zI_of]
            exact two false (by rw [e]; rfl)
          · rw [if_neg e, zI_of]
            exact two true (by cases hq : hH (gS σ) w D i with
              | none => exact absurd hq e
              | some b => rfl)
      rw [st d μ h, hf, qb_M_streak_26, if_pos zI0, qb_M_streak_38, r1, qbV_some, zI_of]
      exact ⟨μ1, L m 0 (by omega), h.q ok r2, r2.r.md⟩
  ·
    have hr2 : -6 ≤ fWh (fOne z1 (fDay (gS σ) z2)) z3 1 ∧ fWh (fOne z1 (fDay (gS σ) z2)) z3 1 ≤ -1 := by omega
    refine ⟨qI (zI (fWh (fOne z1 (fDay (gS σ) z2)) z3 1)), refS σ (-(fWh (fOne z1 (fDay (gS σ) z2)) z3 1)).toNat, fun d μ h => ?_, fun d μ h => ?_, ok.ref⟩
    · rw [qe_J_streak, qb_J_streak_0, zI_of, c_J_faultOfOneDayWhat (d + 26) 1 h.1.1 ok.1 h1 h2 h3 (by omega), qbI_some, if_neg (zI_n0 hr2)]
      obtain ⟨μ9, r1, r2, r3⟩ := c_J_refuse (d + 28) h hr2
      exact ⟨μ9, by simp only [r1, qbI_some], r2, r3⟩
    · rw [st d μ h, qb_M_streak_26, if_neg (zI_n0 hr2)]
      obtain ⟨μ9, r1, r2, r3⟩ := c_M_no (d + 28) h hr2
      exact ⟨μ9, by simp only [r1, qbI_some], r2, r3⟩
