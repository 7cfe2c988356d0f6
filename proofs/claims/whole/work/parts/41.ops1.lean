/-! reads by causes not used: each call answers alike -/
def OP (i j : Nat) (args : List QV) (σ : GS) : Prop := ∃ v σ', JC i args σ v σ' ∧ MC j args σ v σ' ∧ GOK σ'
theorem zI0 : zI 0 = (0 : Int32) := zI_0.symm
theorem zI_n0 {f : Int} (h : -6 ≤ f ∧ f ≤ -1) : ¬ zI f = 0 := by rw [zI_0, zI_eq (by omega)]; omega
theorem CI.pp {μ μ' : QM} {σ : GS} {w m S : Nat} {D : Nat → Nat} {s : AS} {Q : List Nat} (h : CI μ σ) (f : Fr (isPl w) μ μ') (hP : PP μ' w s m D S Q) : CI μ' σ ∧ Fr isCl μ μ' := by
  have fx : Fr isX μ μ' := f.mono fun a ha => Or.inl (isPl.s a ha)
  refine ⟨⟨h.1.x fx, fun p hp => ?_⟩, fx.mono isX.cl⟩
  by_cases e : p = w
  · subst e; exact ⟨hP.2.1, m, D, hP.1⟩
  · obtain ⟨a, m', D', b⟩ := h.2 p hp
    have ne : ∀ t, ¬ isPl w (t, p, 0) := fun t z => e z.2.2
    exact ⟨a.pl f (fun z => e z.symm), m', D', b.congr (by rw [f.1 _ (ne 5)]) (f.1 _ (ne 7))⟩
theorem j_prep (d : Nat) {σ : GS} {w n : Nat} {μ : QM} (h : CI μ σ) (ok : GOK σ) (hw : w < 2) (hn : aD (gS σ) ≤ n) (hn2 : n ≤ 83) :
    ∃ μ' Q, qcall qprogs (d + 5) 129 [qR (0, 0, 0), qR (2, 0, 0), qI (zI (w : Nat)), qI (zI (n : Nat))] μ = some (some (qR (5, w, 0)), μ') ∧ CI μ' σ ∧ Fr isCl μ μ' ∧ PP μ' w (gS σ) (nM (gS σ) w (aP (gS σ) w 0) n) (nD (gS σ) w (aP (gS σ) w 0)) (unS (gS σ) w) Q := by
  obtain ⟨μ1, Q, r1, r2, r3⟩ := c_J_prepared d (show 0 < 11 by decide) h.1.1 ok.1 hw hn hn2 (h.2 w hw).1
  exact ⟨μ1, Q, r1, (h.pp r2 r3).1, (h.pp r2 r3).2, r3⟩
theorem MI.q {μ μ' : QM} {σ : GS} (h : MI μ σ) (ok : GOK σ) (f : FrQ μ μ') : MI μ' σ := h.r ok f.r (h.1.q f)
theorem op_needed {σ : GS} (ok : GOK σ) {z1 z2 : Int} (h1 : iB z1) (h2 : iB z2) : OP 75 195 [qI (zI z1), qI (zI z2)] σ := by
  have hr := fOne_r (z := z1) (fDay_r (gS σ) z2)
  by_cases hf : fOne z1 (fDay (gS σ) z2) = 0
  · have hf0 := hf
    obtain ⟨⟨w, rfl, hw⟩, hd⟩ := fOne_0 hf
    obtain ⟨n, rfl, hn, hn2⟩ := fDay_0 hd
    refine ⟨qI (zI (nM (gS σ) w (aP (gS σ) w 0) n : Nat)), σ, fun d μ h => ?_, fun d μ h => ?_, ok⟩
    · rw [qe_J_needed, qb_J_needed_0, c_J_faultOfOneAndDay (d + 27) h.1.1 ok.1 h1 h2, qbI_some, hf, if_pos zI0, qb_J_needed_17]
      obtain ⟨μ1, Q, r1, r2, r3, r4⟩ := j_prep (d + 24) h ok hw hn hn2
      rw [r1, qbR_some (qd5 hw), r4.1.2.1]
      exact ⟨μ1, rfl, r2, r3⟩
    · rw [qe_M_needed, qb_M_needed_0, c_M_notWho (d + 27) h.1 ok.1 h1 h2, qbI_some, hf, if_pos zI0, qb_M_needed_17]
      obtain ⟨μ1, r1, r2, r3⟩ := c_M_findNeeds (d + 28) h.1 ok.1 hw hn hn2
      rw [r1, qbV_some, r3.2.1]
      exact ⟨μ1, rfl, h.q ok r2, r2.r.md⟩
  ·
    have hr2 : -6 ≤ fOne z1 (fDay (gS σ) z2) ∧ fOne z1 (fDay (gS σ) z2) ≤ -1 := by omega
    refine ⟨qI (zI (fOne z1 (fDay (gS σ) z2))), refS σ (-(fOne z1 (fDay (gS σ) z2))).toNat, fun d μ h => ?_, fun d μ h => ?_, ok.ref⟩
    · rw [qe_J_needed, qb_J_needed_0, c_J_faultOfOneAndDay (d + 27) h.1.1 ok.1 h1 h2, qbI_some, if_neg (zI_n0 hr2)]
      obtain ⟨μ9, r1, r2, r3⟩ := c_J_refuse (d + 28) h hr2
      exact ⟨μ9, by simp only [r1, qbI_some], r2, r3⟩
    · rw [qe_M_needed, qb_M_needed_0, c_M_notWho (d + 27) h.1 ok.1 h1 h2, qbI_some, if_neg (zI_n0 hr2)]
      obtain ⟨μ9, r1, r2, r3⟩ := c_M_no (d + 28) h hr2
      exact ⟨μ9, by simp only [r1, qbI_some], r2, r3⟩
theorem nW_mono {h : Nat → Option Nat} : ∀ {a b : Nat}, a ≤ b → nW h a ≤ nW h b
  | a, 0, hab => by rw [show a = 0 by omega]; exact Nat.le_refl _
  | a, b + 1, hab => by
    by_cases e : a = b + 1
    · rw [e]; exact Nat.le_refl _
    · have := nW_mono (h := h) (show a ≤ b by omega)
      show nW h a ≤ nW h b + _
      omega
theorem op_byHand {σ : GS} (ok : GOK σ) {z1 z2 z3 : Int} (h1 : iB z1) (h2 : iB z2) (h3 : iB z3) : OP 76 196 [qI (zI z1), qI (zI z2), qI (zI z3)] σ := by
  have hr0 := fOne_r (z := z1) (fDay_r (gS σ) z2)
  have hr := fWh_r (z := z3) (m := 1) hr0
  have n12 := ok.1.2.1
  have st : ∀ d μ, MI μ σ → qcall qprogs (d + 30) 196 [qR (24, 0, 0), qI (zI z1), qI (zI z2), qI (zI z3)] μ = qx (d + 29) qc_M_byHand 26 [some (qR (24, 0, 0)), some (qI (zI z1)), some (qI (zI z2)), some (qI (zI z3)), some (qI (zI (fWh (fOne z1 (fDay (gS σ) z2)) z3 1))), none, none, none] [] μ := fun d μ h => by
    rw [qe_M_byHand, qb_M_byHand_0, c_M_notWho (d + 27) h.1 ok.1 h1 h2, qbI_some]
    unfold fWh
    by_cases e : fOne z1 (fDay (gS σ) z2) = 0
    · rw [e, if_pos zI0, if_pos rfl, zI_of 0, zI_of, c_M_isIn (d + 28) (by unfold iB at *; omega), qbI_some, qB_if]
      by_cases e2 : 0 ≤ z3 ∧ z3 ≤ 1
      · rw [show (decide ((0 : Int) ≤ z3) && decide (z3 ≤ 1)) = true by simp [e2], cond_true, if_pos e2]
      · rw [show (decide ((0 : Int) ≤ z3) && decide (z3 ≤ 1)) = false by rw [← Bool.decide_and]; exact decide_eq_false e2, cond_false, if_neg e2, zI_of]
    · rw [if_neg (zI_n0 (by omega)), if_neg e]
  by_cases hf : fWh (fOne z1 (fDay (gS σ) z2)) z3 1 = 0
  · have hf0 := hf
    obtain ⟨hf1, hz0, hz1⟩ := fWh_0 hf
    obtain ⟨⟨w, rfl, hw⟩, hd⟩ := fOne_0 hf1
    obtain ⟨n, rfl, hn, hn2⟩ := fDay_0 hd
    have m12 := nM_le ok.1 (w := w) (wd := aP (gS σ) w 0) hn2
    refine ⟨qI (zI (if z3 = 0 then (nW (hH (gS σ) w (nD (gS σ) w (aP (gS σ) w 0))) (nM (gS σ) w (aP (gS σ) w 0) n) : Nat) else onM (fW0 (hH (gS σ) w (nD (gS σ) w (aP (gS σ) w 0))) (nD (gS σ) w (aP (gS σ) w 0)) (nM (gS σ) w (aP (gS σ) w 0) n)))), σ, fun d μ h => ?_, fun d μ h => ?_, ok⟩
    · rw [qe_J_byHand, qb_J_byHand_0, zI_of, c_J_faultOfOneDayWhat (d + 26) 1 h.1.1 ok.1 h1 h2 h3 (by omega), qbI_some, hf, if_pos zI0, qb_J_byHand_22]
      obtain ⟨μ1, Q, r1, r2, r3, r4⟩ := j_prep (d + 24) h ok hw hn hn2
      obtain ⟨μ2, q1, q2, q3⟩ := c_Plan_layByHand (d + 27) hw ok.1 r4
      have r5 := r4.h q2
      have ci := r2.pp q2.pl r5
      rw [r1, qbR_some (qd5 hw), q1, qbV_some]
      by_cases e : z3 = 0
      · rw [if_pos (by rw [e]; exact zI0), if_pos e, c_Plan_withoutByHand (d + 28) hw ok.1 r5.1 q3, qbI_some, qb_J_byHand_56]
        exact ⟨μ2, rfl, ci.1, r3.tr ci.2⟩
      · rw [if_neg (by rw [zI_0, zI_eq (by omega)]; exact e), if_neg e, qb_J_byHand_51, c_Plan_firstWithoutByHand (d + 28) hw ok.1 r5.1 q3, qbI_some, qb_J_byHand_56]
        exact ⟨μ2, rfl, ci.1, r3.tr ci.2⟩
    · obtain ⟨μ1, r1, r2, r3, r4⟩ := c_M_findHand (d + 24) h.1 ok.1 hw hn hn2
      have L : ∀ r, r ≤ nM (gS σ) w (aP (gS σ) w 0) n → qx (d + 29) qc_M_byHand 59 [some (qR (24, 0, 0)), none, none, some (qI (zI z3)), none, some (qI (zI ((nW (hH (gS σ) w (nD (gS σ) w (aP (gS σ) w 0))) (nM (gS σ) w (aP (gS σ) w 0) n) : Nat) - (nW (hH (gS σ) w (nD (gS σ) w (aP (gS σ) w 0))) r : Nat) : Int))), some (qI (zI (onM ((ffr (fun i => (hH (gS σ) w (nD (gS σ) w (aP (gS σ) w 0)) i).isNone) (nM (gS σ) w (aP (gS σ) w 0) n - r) r).map (nD (gS σ) w (aP (gS σ) w 0)))))), some (qI (zI ((r : Int) - 1)))] [] μ1 = some (some (qI (zI (if z3 = 0 then (nW (hH (gS σ) w (nD (gS σ) w (aP (gS σ) w 0))) (nM (gS σ) w (aP (gS σ) w 0) n) : Nat) else onM (fW0 (hH (gS σ) w (nD (gS σ) w (aP (gS σ) w 0))) (nD (gS σ) w (aP (gS σ) w 0)) (nM (gS σ) w (aP (gS σ) w 0) n))))), μ1) := by
        generalize nM (gS σ) w (aP (gS σ) w 0) n = m at *
        generalize nD (gS σ) w (aP (gS σ) w 0) = D at *
        intro r
        induction r with
        | zero =>
          intro _
          rw [qb_M_byHand_59]
          simp (disch := omega) only [zI_of, zI_0, zI_1, zI_add, zI_sub, zI_mul, zI_neg, zI_lt, zI_le, zI_eq, zI_rem, zI_oob, zI_ixN, zI_ix, zI_ite, zI10, zI01, Int.toNat_natCast, cond_false, cond_true, q01_0, q01_1, q01_0z, q01_1z, qB_if, qB_ifz, qB_ret, qB_retz, qbI_some, qbV_some, qbL_some, qbR_some, qbN_some, qbN_none, true_or, or_true, false_or, or_false, if_true, if_false, Int.reduceEq, Int.reduceLT, Int.reduceLE, Int.reduceNeg]
          rw [if_pos (by omega), qb_M_byHand_95]
          by_cases e : z3 = 0
          · rw [if_pos (by rw [e]; exact zI0), if_pos e, qb_M_byHand_106]
            refine q_ret ?_
            show ((nW (hH (gS σ) w D) m : Nat) : Int) - (0 : Nat) = _
            omega
          · rw [if_neg (by rw [zI_0, zI_eq (by omega)]; exact e), if_neg e, qb_M_byHand_104, qb_M_byHand_106]
            rfl
        | succ r ih =>
          intro hr2
          have i1 := ih (by omega)
          have mm := nW_mono (h := hH (gS σ) w D) hr2
          have e1 : (((r + 1 : Nat) : Int) - 1) = (r : Nat) := by omega
          have e2 : m - r = (m - (r + 1)) + 1 := by omega
          have v := r4 r (by omega)
          rw [e2] at i1
          unfold ffr at i1
          rw [qb_M_byHand_59, e1, if_neg (by rw [zI_0, zI_lt (by omega)]; omega), zI_oob (n := 12) (by omega), cond_false, show qix (zI (r : Nat)) = r from zI_ixN (by omega), v, onM_lt _ _ (fun b hb => by have := hH_lt hb; omega)]
          by_cases q : hH (gS σ) w D r = none
          · rw [if_pos q, qb_M_byHand_77, zI_oob (n := 12) (by omega), cond_false, show qix (zI (r : Nat)) = r from zI_ixN (by omega), (r3.2.2 r (by omega)).2, qb_M_byHand_89]
            rw [if_pos (by rw [q]; rfl)] at i1
            have e5 : nW (hH (gS σ) w D) (r + 1) = nW (hH (gS σ) w D) r + 1 := by show _ + (if _ then _ else _) = _; rw [if_pos q]
            rw [e5]
            simp (disch := omega) only [zI_of, zI_0, zI_1, zI_add, zI_sub, zI_mul, zI_neg, zI_lt, zI_le, zI_eq, zI_rem, zI_oob, zI_ixN, zI_ix, zI_ite, zI10, zI01, Int.toNat_natCast, cond_false, cond_true, q01_0, q01_1, q01_0z, q01_1z, qB_if, qB_ifz, qB_ret, qB_retz, qbI_some, qbV_some, qbL_some, qbR_some, qbN_some, qbN_none, true_or, or_true, false_or, or_false, if_true, if_false, Int.reduceEq, Int.reduceLT, Int.reduceLE, Int.reduceNeg]
            rw [show ((nW (hH (gS σ) w D) m : Nat) : Int) - ((nW (hH (gS σ) w D) r + 1 : Nat) : Int) + 1 = (nW (hH (gS σ) w D) m : Nat) - (nW (hH (gS σ) w D) r : Nat) by omega]
            exact i1
          · rw [if_neg q, qb_M_byHand_89]
            rw [if_neg (by cases hq : hH (gS σ) w D r with
              | none => exact absurd hq q
              | some b => simp)] at i1
            have e5 : nW (hH (gS σ) w D) (r + 1) = nW (hH (gS σ) w D) r := by show _ + (if _ then _ else _) = _; rw [if_neg q]; rfl
            rw [e5]
            simp (disch := omega) only [zI_of, zI_0, zI_1, zI_add, zI_sub, zI_mul, zI_neg, zI_lt, zI_le, zI_eq, zI_rem, zI_oob, zI_ixN, zI_ix, zI_ite, zI10, zI01, Int.toNat_natCast, cond_false, cond_true, q01_0, q01_1, q01_0z, q01_1z, qB_if, qB_ifz, qB_ret, qB_retz, qbI_some, qbV_some, qbL_some, qbR_some, qbN_some, qbN_none, true_or, or_true, false_or, or_false, if_true, if_false, Int.reduceEq, Int.reduceLT, Int.reduceLE, Int.reduceNeg]
            exact i1
      rw [st d μ h, hf, qb_M_byHand_26, if_pos zI0, qb_M_byHand_38, r1, qbV_some, r3.2.1, zI_of, zI_of, zI_of, zI_sub]
      have := L _ (Nat.le_refl _)
      rw [Nat.sub_self, Int.sub_self] at this
      exact ⟨μ1, this, h.q ok r2, r2.r.md⟩
  ·
    have hr2 : -6 ≤ fWh (fOne z1 (fDay (gS σ) z2)) z3 1 ∧ fWh (fOne z1 (fDay (gS σ) z2)) z3 1 ≤ -1 := by omega
    refine ⟨qI (zI (fWh (fOne z1 (fDay (gS σ) z2)) z3 1)), refS σ (-(fWh (fOne z1 (fDay (gS σ) z2)) z3 1)).toNat, fun d μ h => ?_, fun d μ h => ?_, ok.ref⟩
    · rw [qe_J_byHand, qb_J_byHand_0, zI_of, c_J_faultOfOneDayWhat (d + 26) 1 h.1.1 ok.1 h1 h2 h3 (by omega), qbI_some, if_neg (zI_n0 hr2)]
      obtain ⟨μ9, r1, r2, r3⟩ := c_J_refuse (d + 28) h hr2
      exact ⟨μ9, by simp only [r1, qbI_some], r2, r3⟩
    · rw [st d μ h, qb_M_byHand_26, if_neg (zI_n0 hr2)]
      obtain ⟨μ9, r1, r2, r3⟩ := c_M_no (d + 28) h hr2
      exact ⟨μ9, by simp only [r1, qbI_some], r2, r3⟩
