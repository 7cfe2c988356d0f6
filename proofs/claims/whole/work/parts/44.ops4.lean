/-! weekdays -/
theorem lV_ext {s s' : AS} {w : Nat} (hD : aD s' = aD s) (hN : aN s' = aN s) (hC : aC s' = aC s) (h4 : aP s' w 4 = aP s w 4) (wd n : Nat) : nM s' w wd n = nM s w wd n ∧ nD s' w wd = nD s w wd ∧ lV s' w wd n = lV s w wd n := by
  have e0 : n0 s' w wd = n0 s w wd := by unfold n0; rw [hD, h4]
  have e1 : nM s' w wd n = nM s w wd n := by unfold nM; rw [e0]
  have e2 : nD s' w wd = nD s w wd := by funext i; unfold nD; rw [e0]
  have eT : aT s' = aT s := by funext c; unfold aT aK; rw [hC]
  have eW : fW s' = fW s := by funext c; unfold fW aW; rw [hC]
  have eG : gB s' = gB s := by funext m D c i; unfold gB gdB aF; rw [hC, eT]
  have eU : unS s' w = unS s w := by unfold unS aX; rw [hC, hN]
  refine ⟨e1, e2, ?_⟩
  unfold lV vW
  rw [e1, e2, eW, eG, hN, eU]
theorem aOK.wd {s : AS} (ok : aOK s) {w v : Nat} (hv : v ≤ 6) : aOK (setP s w 0 v) := by
  obtain ⟨h1, h2, h3, h4, h5⟩ := ok
  have hU : ∀ n, aU (setP s w 0 v) n = aU s n := fun n => by
    induction n with
    | zero => rfl
    | succ n ih => show aU (setP s w 0 v) n + aC s n 4 = aU s n + aC s n 4; rw [ih]
  have key : ∀ w', okP s w' → okP (setP s w 0 v) w' := fun w' h => by
    obtain ⟨a1, a2, a3, a4, a5⟩ := h
    have e : ∀ k, k ≠ 0 → aP (setP s w 0 v) w' k = aP s w' k := fun k hk => if_neg (fun z => hk z.2)
    refine ⟨?_, by rw [e 1 (by decide)]; exact a2, by rw [e 2 (by decide)]; exact a3, by rw [e 3 (by decide)]; show _ ≤ 29 * aU (setP s w 0 v) (aN s); rw [hU]; exact a4, by rw [e 4 (by decide)]; exact a5⟩
    show (if w' = w ∧ 0 = 0 then v else aP s w' 0) ≤ 6
    split <;> omega
  exact ⟨h1, h2, key 0 h3, key 1 h4, h5⟩
theorem c_M_settledBy (d : Nat) {w wd n : Nat} {s : AS} {μ : QM} (h : RM μ s) (ok : aOK s) (hw : w < 2) (hwd : wd ≤ 6) (hn : aD s ≤ n) (hn2 : n ≤ 83) :
    ∃ μ', qcall qprogs (d + 7) 208 [qR (24, 0, 0), qI (zI (w : Nat)), qI (zI (wd : Nat)), qI (zI (n : Nat))] μ = some (some (qI (zI (stl s w wd n))), μ') ∧ FrR μ μ' ∧ RM μ' s ∧ ∀ t, 44 ≤ t → μ'.1 (t, 0, 0) = μ.1 (t, 0, 0) := by
  have hR1 : RM (qsi μ (26, 0, 0) w (zI (wd : Nat))) (setP s w 0 wd) := h.sWd
  have ok1 := ok.wd (w := w) hwd
  have e0 : aP (setP s w 0 wd) w 0 = wd := if_pos ⟨rfl, rfl⟩
  obtain ⟨l1, -, l3⟩ := lV_ext (s := s) (s' := setP s w 0 wd) (w := w) rfl rfl rfl (if_neg (by simp)) wd n
  obtain ⟨μ1, r1, r2, r3⟩ := c_M_laidValue d (w := w) (n := n) hR1 ok1 hw hn hn2
  rw [e0, l3] at r1
  have m27 := r3.1.2.1
  rw [e0, l1] at m27
  have hv := lV_le ok (w := w) (wd := wd) hn2
  have hm := nM_le ok (w := w) (wd := wd) hn2
  have hR2 : RM μ1 (setP s w 0 wd) := hR1.q r2
  refine ⟨qsi μ1 (26, 0, 0) w (zI (aP s w 0 : Nat)), ?_, ?_, ?_, fun t ht => ?_⟩
  · rw [qe_M_settledBy, qb_M_settledBy_0, zI_oob (n := 2) (by omega), cond_false, cond_false, show qix (zI (w : Nat)) = w from zI_ixN (by omega), h.wd hw, r1, qbI_some, cond_false, if_neg (by decide), if_neg (by decide), qsi_ne (by simp), m27]
    have ev : (zI (lV s w wd n : Nat) - zI (lV s w wd n : Nat) / Int32.ofInt 1000 * Int32.ofInt 1000) - (Int32.ofInt 3 * (zI (nM s w wd n : Nat) - (zI (lV s w wd n : Nat) / Int32.ofInt 1000))) = zI (stl s w wd n) := by
      simp only [zI_of]
      rw [zI_rem (by omega), zI_tdiv (by omega), zI_sub, zI_mul, zI_sub]
      refine zI_congr ?_
      unfold stl
      omega
    rw [ev]
  · exact ((FrS.row (by decide)).r.tr r2.r).tr (FrS.row (by decide)).r
  · exact RM.st (hR2.sWd (w := w) (v := aP s w 0)) rfl rfl (fun w' k hw' hk => by
      show aP s w' k = (if w' = w ∧ k = 0 then aP s w 0 else (if w' = w ∧ k = 0 then wd else aP s w' k))
      by_cases e : w' = w ∧ k = 0
      · rw [if_pos e, e.1, e.2]
      · rw [if_neg e, if_neg e]) (fun _ _ _ _ => rfl)
  · rw [qsi_ne (by simp; omega), r2.1.1 _ (by unfold isQ; simp; omega), qsi_ne (by simp; omega)]
theorem MI.rr {μ μ' : QM} {σ : GS} (h : MI μ σ) (ok : GOK σ) (f : FrR μ μ') (hR : RM μ' (gS σ)) : MI μ' σ ∧ Fr isMd μ μ' := ⟨h.r ok f hR, f.md⟩
theorem j_ref2 {d : Nat} {f : Int} {μ : QM} {σ : GS} (h : CI μ σ) (hf : -6 ≤ f ∧ f ≤ -1) : ∃ μ', qbI (qcall qprogs (d + 2) 105 [qR (0, 0, 0), qI (zI f)] μ) (fun x2 μ1 => some (some (qI x2), μ1)) = some (some (qI (zI (1000000000 - f))), μ') ∧ CI μ' (refS σ (-f).toNat) ∧ Fr isCl μ μ' := by
  obtain ⟨μ', r1, r2, r3⟩ := c_J_refuseFar d h hf
  exact ⟨μ', by rw [r1]; rfl, r2, r3⟩
theorem op_settled {σ : GS} (ok : GOK σ) {z1 z2 z3 : Int} (h1 : iB z1) (h2 : iB z2) (h3 : iB z3) : OP 81 209 [qI (zI z1), qI (zI z2), qI (zI z3)] σ := by
  have bD := ok.1.1
  have c3 := h3.1
  have c4 := h3.2
  have c5 := h2.1
  have c6 := h2.2
  by_cases a : (z1 = 0 ∨ z1 = 1) ∧ (0 ≤ z2 ∧ z2 ≤ 6)
  · have eJ : ∀ d μ, CI μ σ → qcall qprogs (d + 30) 81 [qR (0, 0, 0), qI (zI z1), qI (zI z2), qI (zI z3)] μ = qx (d + 29) qc_J_settled 20 [some (qR (0, 0, 0)), some (qI (zI z1)), some (qI (zI z2)), some (qI (zI z3)), none] [] μ := fun d μ h => by
      rw [qe_J_settled, qb_J_settled_0, c_J_isNobody (d + 28) h1, qbI_some, decide_eq_true a.1, if_pos (by decide), c_J_isNoWeekday (d + 28) h2, qbI_some, decide_eq_true a.2, if_pos (by decide)]
    have eM : ∀ d μ, MI μ σ → qcall qprogs (d + 30) 209 [qR (24, 0, 0), qI (zI z1), qI (zI z2), qI (zI z3)] μ = qx (d + 29) qc_M_settled 31 [some (qR (24, 0, 0)), some (qI (zI z1)), some (qI (zI z2)), some (qI (zI z3)), none] [qI (zI (fDay (gS σ) z3))] μ := fun d μ h => by
      rw [qe_M_settled, qb_M_settled_0, c_M_isOne (d + 28) h1, qbI_some, decide_eq_true a.1, if_neg (by decide), zI_of, zI_of, c_M_isIn (d + 28) (by omega), qbI_some, show (decide ((0 : Int) ≤ z2) && decide (z2 ≤ 6)) = true by simp [a.2], if_neg (by decide), qb_M_settled_21, h.1.day, zI_of, c_M_bound (d + 28) (by omega), qbI_some]
      rfl
    have hr := fDay_r (gS σ) z3
    by_cases hf : fDay (gS σ) z3 = 0
    · obtain ⟨n, rfl, hn, hn2⟩ := fDay_0 hf
      obtain ⟨w, rfl, hw⟩ : ∃ w : Nat, z1 = w ∧ w < 2 := ⟨z1.toNat, by omega, by omega⟩
      obtain ⟨wd, rfl, hwd⟩ : ∃ wd : Nat, z2 = wd ∧ wd ≤ 6 := ⟨z2.toNat, by omega, by omega⟩
      refine ⟨qI (zI (stl (gS σ) w wd n)), σ, fun d μ h => ?_, fun d μ h => ?_, ok⟩
      · obtain ⟨μ1, Q, r1, r2, r3⟩ := c_J_settledOn (d + 12) h.1.1 ok.1 hw hwd hn hn2 (h.2 w hw).1
        have ci := h.pp r2 r3
        rw [eJ d μ h, qb_J_settled_20, c_J_faultOfDay (d + 28) h.1.1 ok.1 h3, qbI_some, hf, if_pos zI0, qb_J_settled_39, r1, qbI_some]
        exact ⟨μ1, rfl, ci.1, ci.2⟩
      · obtain ⟨μ1, r1, r2, r3, -⟩ := c_M_settledBy (d + 22) h.1 ok.1 hw hwd hn hn2
        rw [eM d μ h, qb_M_settled_31, hf, if_pos zI0, qb_M_settled_47, r1, qbI_some, qb_M_settled_54]
        exact ⟨μ1, rfl, h.rr ok r2 r3⟩
    · have hr2 : -6 ≤ fDay (gS σ) z3 ∧ fDay (gS σ) z3 ≤ -1 := by omega
      refine ⟨qI (zI (1000000000 - fDay (gS σ) z3)), refS σ (-(fDay (gS σ) z3)).toNat, fun d μ h => ?_, fun d μ h => ?_, ok.ref⟩
      · rw [eJ d μ h, qb_J_settled_20, c_J_faultOfDay (d + 28) h.1.1 ok.1 h3, qbI_some, if_neg (zI_n0 hr2)]
        exact j_ref2 (d := d + 27) h hr2
      · obtain ⟨μ9, r1, r2, r3⟩ := c_M_lower (d + 28) h hr2
        rw [eM d μ h, qb_M_settled_31, if_neg (zI_n0 hr2), r1, qbI_some, qb_M_settled_54]
        exact ⟨μ9, rfl, r2, r3⟩
  · refine ⟨qI (zI (1000000000 - -1)), refS σ 1, fun d μ h => ?_, fun d μ h => ?_, ok.ref⟩
    · have e : qcall qprogs (d + 30) 81 [qR (0, 0, 0), qI (zI z1), qI (zI z2), qI (zI z3)] μ = qx (d + 29) qc_J_settled 14 [some (qR (0, 0, 0)), none, none, none, none] [] μ := by
        rw [qe_J_settled, qb_J_settled_0, c_J_isNobody (d + 28) h1, qbI_some, c_J_isNoWeekday (d + 28) h2, qbI_some]
        by_cases q : z1 = 0 ∨ z1 = 1
        · rw [decide_eq_true q, if_pos (by decide), decide_eq_false (fun z => a ⟨q, z⟩), if_neg (by decide)]
        · rw [decide_eq_false q, if_neg (by decide)]
      rw [e, qb_J_settled_14, zI_of]
      exact j_ref2 (d := d + 27) h (by decide)
    · have e : qcall qprogs (d + 30) 209 [qR (24, 0, 0), qI (zI z1), qI (zI z2), qI (zI z3)] μ = qx (d + 29) qc_M_settled 17 [some (qR (24, 0, 0)), some (qI (zI z1)), some (qI (zI z2)), some (qI (zI z3)), none] [] μ := by
        rw [qe_M_settled, qb_M_settled_0, c_M_isOne (d + 28) h1, qbI_some, zI_of, zI_of, c_M_isIn (d + 28) (by omega), qbI_some]
        by_cases q : z1 = 0 ∨ z1 = 1
        · rw [decide_eq_true q, if_neg (by decide), show (decide ((0 : Int) ≤ z2) && decide (z2 ≤ 6)) = false by rw [← Bool.decide_and]; exact decide_eq_false (fun z => a ⟨q, z⟩), if_pos (by decide)]
        · rw [decide_eq_false q, if_pos (by decide)]
      obtain ⟨μ9, r1, r2, r3⟩ := c_M_lower (d + 28) (f := -1) h (by decide)
      rw [e, qb_M_settled_17, qb_M_settled_31, zI_of, if_neg (by decide), r1, qbI_some, qb_M_settled_54]
      exact ⟨μ9, rfl, r2, r3⟩
/-- the best of the first weekdays -/
def bwk (f : Nat → Int) : Nat → Nat
  | 0 => 0
  | k + 1 => if f (bwk f k) < f (k + 1) then k + 1 else bwk f k
theorem bwk_le {f : Nat → Int} : ∀ k, bwk f k ≤ k
  | 0 => Nat.le_refl 0
  | k + 1 => by
    have := bwk_le (f := f) k
    unfold bwk
    split <;> omega
theorem bwk_s (f : Nat → Int) (k : Nat) : bwk f (k + 1) = if f (bwk f k) < f (k + 1) then k + 1 else bwk f k := rfl
theorem op_bestWeekday {σ : GS} (ok : GOK σ) {z1 z2 : Int} (h1 : iB z1) (h2 : iB z2) : OP 82 210 [qI (zI z1), qI (zI z2)] σ := by
  have hr := fOne_r (z := z1) (fDay_r (gS σ) z2)
  by_cases hf : fOne z1 (fDay (gS σ) z2) = 0
  · have hf0 := hf
    obtain ⟨⟨w, rfl, hw⟩, hd⟩ := fOne_0 hf
    obtain ⟨n, rfl, hn, hn2⟩ := fDay_0 hd
    have sb : ∀ wd, -100 ≤ stl (gS σ) w wd n ∧ stl (gS σ) w wd n ≤ 2000 := fun wd => stl_b ok.1 hn2
    refine ⟨qI (zI (bwk (fun wd => stl (gS σ) w wd n) 6 : Nat)), σ, fun d μ h => ?_, fun d μ h => ?_, ok⟩
    · have L : ∀ k c μ1, c + k = 6 → CI μ1 σ → ∃ μ', qx (d + 29) qc_J_bestWeekday 32 [some (qR (0, 0, 0)), some (qI (zI (w : Nat))), some (qI (zI (n : Nat))), none, some (qI (zI (bwk (fun wd => stl (gS σ) w wd n) c : Nat))), some (qI (zI (stl (gS σ) w (bwk (fun wd => stl (gS σ) w wd n) c) n))), some (qI (zI ((c + 1 : Nat) : Int))), none] [] μ1 = some (some (qI (zI (bwk (fun wd => stl (gS σ) w wd n) 6 : Nat))), μ') ∧ CI μ' σ ∧ Fr isCl μ1 μ' := by
        intro k
        induction k with
        | zero =>
          intro c μ1 hc h
          rw [qb_J_bestWeekday_32]
          simp (disch := omega) only [zI_of, zI_0, zI_1, zI_add, zI_sub, zI_mul, zI_neg, zI_lt, zI_le, zI_eq, zI_rem, zI_oob, zI_ixN, zI_ix, zI_ite, zI10, zI01, Int.toNat_natCast, cond_false, cond_true, q01_0, q01_1, q01_0z, q01_1z, qB_if, qB_ifz, qB_ret, qB_retz, qbI_some, qbV_some, qbL_some, qbR_some, qbN_some, qbN_none, true_or, or_true, false_or, or_false, if_true, if_false, Int.reduceEq, Int.reduceLT, Int.reduceLE, Int.reduceNeg, qb_J_bestWeekday_70]
          rw [if_pos (by omega), show c = 6 by omega]
          exact ⟨μ1, rfl, h, Fr.rf⟩
        | succ k ih =>
          intro c μ1 hc h
          obtain ⟨μ2, Q, r1, r2, r3⟩ := c_J_settledOn (d + 12) (wd := c + 1) h.1.1 ok.1 hw (by omega) hn hn2 (h.2 w hw).1
          have ci := h.pp r2 r3
          obtain ⟨μ3, x1, x2, x3⟩ := ih (c + 1) μ2 (by omega) ci.1
          have s1 := sb (c + 1)
          have s2 := sb (bwk (fun wd => stl (gS σ) w wd n) c)
          rw [bwk_s] at x1
          rw [qb_J_bestWeekday_32, if_neg (by rw [zI_of, zI_le (by omega)]; omega), r1, qbI_some]
          refine ⟨μ3, ?_, x2, ci.2.tr x3⟩
          by_cases e : stl (gS σ) w (bwk (fun wd => stl (gS σ) w wd n) c) n < stl (gS σ) w (c + 1) n
          · rw [if_pos e] at x1
            rw [if_neg (by rw [zI_le (by omega)]; omega), qb_J_bestWeekday_64]
            simp (disch := omega) only [zI_of, zI_0, zI_1, zI_add, zI_sub, zI_mul, zI_neg, zI_lt, zI_le, zI_eq, zI_rem, zI_oob, zI_ixN, zI_ix, zI_ite, zI10, zI01, Int.toNat_natCast, cond_false, cond_true, q01_0, q01_1, q01_0z, q01_1z, qB_if, qB_ifz, qB_ret, qB_retz, qbI_some, qbV_some, qbL_some, qbR_some, qbN_some, qbN_none, true_or, or_true, false_or, or_false, if_true, if_false, Int.reduceEq, Int.reduceLT, Int.reduceLE, Int.reduceNeg]
            exact x1
          · rw [if_neg e] at x1
            rw [if_pos (by rw [zI_le (by omega)]; omega), qb_J_bestWeekday_64]
            simp (disch := omega) only [zI_of, zI_0, zI_1, zI_add, zI_sub, zI_mul, zI_neg, zI_lt, zI_le, zI_eq, zI_rem, zI_oob, zI_ixN, zI_ix, zI_ite, zI10, zI01, Int.toNat_natCast, cond_false, cond_true, q01_0, q01_1, q01_0z, q01_1z, qB_if, qB_ifz, qB_ret, qB_retz, qbI_some, qbV_some, qbL_some, qbR_some, qbN_some, qbN_none, true_or, or_true, false_or, or_false, if_true, if_false, Int.reduceEq, Int.reduceLT, Int.reduceLE, Int.reduceNeg]
            exact x1
      obtain ⟨μ1, Q, r1, r2, r3⟩ := c_J_settledOn (d + 12) (wd := 0) h.1.1 ok.1 hw (by omega) hn hn2 (h.2 w hw).1
      have ci := h.pp r2 r3
      obtain ⟨μ2, x1, x2, x3⟩ := L 6 0 μ1 (by omega) ci.1
      rw [qe_J_bestWeekday, qb_J_bestWeekday_0, c_J_faultOfOneAndDay (d + 27) h.1.1 ok.1 h1 h2, qbI_some, hf, if_pos zI0, qb_J_bestWeekday_17, zI_of, zI_of, show zI (0 : Int) = zI ((0 : Nat) : Int) from rfl, r1, qbI_some]
      exact ⟨μ2, x1, x2, ci.2.tr x3⟩
    · have L : ∀ k c μ1, c + k = 6 → MI μ1 σ → ∃ μ', qx (d + 29) qc_M_bestWeekday 23 [some (qR (24, 0, 0)), some (qI (zI (w : Nat))), some (qI (zI (n : Nat))), none, some (qI (zI (bwk (fun wd => stl (gS σ) w wd n) c : Nat))), some (qI (zI ((c + 1 : Nat) : Int)))] [] μ1 = some (some (qI (zI (bwk (fun wd => stl (gS σ) w wd n) 6 : Nat))), μ') ∧ MI μ' σ ∧ Fr isMd μ1 μ' := by
        intro k
        induction k with
        | zero =>
          intro c μ1 hc h
          rw [qb_M_bestWeekday_23]
          simp (disch := omega) only [zI_of, zI_0, zI_1, zI_add, zI_sub, zI_mul, zI_neg, zI_lt, zI_le, zI_eq, zI_rem, zI_oob, zI_ixN, zI_ix, zI_ite, zI10, zI01, Int.toNat_natCast, cond_false, cond_true, q01_0, q01_1, q01_0z, q01_1z, qB_if, qB_ifz, qB_ret, qB_retz, qbI_some, qbV_some, qbL_some, qbR_some, qbN_some, qbN_none, true_or, or_true, false_or, or_false, if_true, if_false, Int.reduceEq, Int.reduceLT, Int.reduceLE, Int.reduceNeg, qb_M_bestWeekday_64]
          rw [if_pos (by omega), show c = 6 by omega]
          exact ⟨μ1, rfl, h, Fr.rf⟩
        | succ k ih =>
          intro c μ1 hc h
          have bl := bwk_le (f := fun wd => stl (gS σ) w wd n) c
          obtain ⟨μ2, r1, r2, r3, -⟩ := c_M_settledBy (d + 22) (wd := c + 1) h.1 ok.1 hw (by omega) hn hn2
          have ci := h.rr ok r2 r3
          obtain ⟨μ2', r1', r2', r3', -⟩ := c_M_settledBy (d + 22) (wd := bwk (fun wd => stl (gS σ) w wd n) c) ci.1.1 ok.1 hw (by omega) hn hn2
          have ci' := ci.1.rr ok r2' r3'
          obtain ⟨μ3, x1, x2, x3⟩ := ih (c + 1) μ2' (by omega) ci'.1
          have s1 := sb (c + 1)
          have s2 := sb (bwk (fun wd => stl (gS σ) w wd n) c)
          rw [bwk_s] at x1
          rw [qb_M_bestWeekday_23, if_neg (by rw [zI_of, zI_le (by omega)]; omega), r1, qbI_some, r1', qbI_some]
          refine ⟨μ3, ?_, x2, ci.2.tr (ci'.2.tr x3)⟩
          by_cases e : stl (gS σ) w (bwk (fun wd => stl (gS σ) w wd n) c) n < stl (gS σ) w (c + 1) n
          · rw [if_pos e] at x1
            rw [if_neg (by rw [zI_le (by omega)]; omega), qb_M_bestWeekday_56]
            simp (disch := omega) only [zI_of, zI_0, zI_1, zI_add, zI_sub, zI_mul, zI_neg, zI_lt, zI_le, zI_eq, zI_rem, zI_oob, zI_ixN, zI_ix, zI_ite, zI10, zI01, Int.toNat_natCast, cond_false, cond_true, q01_0, q01_1, q01_0z, q01_1z, qB_if, qB_ifz, qB_ret, qB_retz, qbI_some, qbV_some, qbL_some, qbR_some, qbN_some, qbN_none, true_or, or_true, false_or, or_false, if_true, if_false, Int.reduceEq, Int.reduceLT, Int.reduceLE, Int.reduceNeg]
            exact x1
          · rw [if_neg e] at x1
            rw [if_pos (by rw [zI_le (by omega)]; omega), qb_M_bestWeekday_54, qb_M_bestWeekday_56]
            simp (disch := omega) only [zI_of, zI_0, zI_1, zI_add, zI_sub, zI_mul, zI_neg, zI_lt, zI_le, zI_eq, zI_rem, zI_oob, zI_ixN, zI_ix, zI_ite, zI10, zI01, Int.toNat_natCast, cond_false, cond_true, q01_0, q01_1, q01_0z, q01_1z, qB_if, qB_ifz, qB_ret, qB_retz, qbI_some, qbV_some, qbL_some, qbR_some, qbN_some, qbN_none, true_or, or_true, false_or, or_false, if_true, if_false, Int.reduceEq, Int.reduceLT, Int.reduceLE, Int.reduceNeg]
            exact x1
      obtain ⟨μ2, x1, x2, x3⟩ := L 6 0 μ (by omega) h
      rw [qe_M_bestWeekday, qb_M_bestWeekday_0, c_M_notWho (d + 27) h.1 ok.1 h1 h2, qbI_some, hf, if_pos zI0, qb_M_bestWeekday_17, zI_of, zI_of]
      exact ⟨μ2, x1, x2, x3⟩
  ·
    have hr2 : -6 ≤ fOne z1 (fDay (gS σ) z2) ∧ fOne z1 (fDay (gS σ) z2) ≤ -1 := by omega
    refine ⟨qI (zI (fOne z1 (fDay (gS σ) z2))), refS σ (-(fOne z1 (fDay (gS σ) z2))).toNat, fun d μ h => ?_, fun d μ h => ?_, ok.ref⟩
    · rw [qe_J_bestWeekday, qb_J_bestWeekday_0, c_J_faultOfOneAndDay (d + 27) h.1.1 ok.1 h1 h2, qbI_some, if_neg (zI_n0 hr2)]
      obtain ⟨μ9, r1, r2, r3⟩ := c_J_refuse (d + 28) h hr2
      exact ⟨μ9, by simp only [r1, qbI_some], r2, r3⟩
    · rw [qe_M_bestWeekday, qb_M_bestWeekday_0, c_M_notWho (d + 27) h.1 ok.1 h1 h2, qbI_some, if_neg (zI_n0 hr2)]
      obtain ⟨μ9, r1, r2, r3⟩ := c_M_no (d + 28) h hr2
      exact ⟨μ9, by simp only [r1, qbI_some], r2, r3⟩
