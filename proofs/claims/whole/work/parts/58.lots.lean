section
/-! years by lot -/
def nxS (y : Int32) : Int32 := y * zI 1103515245 + zI 12345
def drw (y : Int32) : Nat := (y.toBitVec.toNat &&& 2147483647) / 65536 % 84
theorem and31 (y : Int32) : y &&& zI 2147483647 = zI ((y.toBitVec.toNat &&& 2147483647 : Nat) : Int) ∧ y.toBitVec.toNat &&& 2147483647 < 2147483648 := by
  refine ⟨?_, Nat.lt_of_le_of_lt Nat.and_le_right (by decide)⟩
  have e : y = zI (y.toBitVec.toNat : Nat) := by
    rw [zI_nI]
    exact Int32.toBitVec_inj.mp (by simp [nI])
  rw [← zI_and, ← e]
  rfl
theorem drwJ (y : Int32) : ((y &&& zI 2147483647) >>> (zI 16 &&& 31)) - ((y &&& zI 2147483647) >>> (zI 16 &&& 31)) / zI 84 * zI 84 = zI (drw y : Nat) := by
  obtain ⟨e, l⟩ := and31 y
  unfold drw
  rw [e]
  generalize y.toBitVec.toNat &&& 2147483647 = k at *
  rw [show zI (16 : Int) = zI ((16 : Nat) : Int) from rfl, zI_shr ⟨by decide, l⟩, zI_rem (by omega)]
  refine zI_congr ?_
  omega
theorem drwM (y : Int32) : ((y &&& zI 2147483647) / zI 65536) - ((y &&& zI 2147483647) / zI 65536) / zI 84 * zI 84 = zI (drw y : Nat) := by
  obtain ⟨e, l⟩ := and31 y
  unfold drw
  rw [e]
  generalize y.toBitVec.toNat &&& 2147483647 = k at *
  rw [zI_tdiv (by omega), zI_rem (by omega)]
  refine zI_congr ?_
  omega
def ltS (s : AS) (y : Int32) : Nat → AS × Int32
  | 0 => (s, y)
  | c + 1 => if aX s c = true then (setC (ltS s y c).1 c 3 (drw (nxS (ltS s y c).2)), nxS (ltS s y c).2) else ltS s y c
theorem ltS_s (s : AS) (y : Int32) (c : Nat) : ltS s y (c + 1) = if aX s c = true then (setC (ltS s y c).1 c 3 (drw (nxS (ltS s y c).2)), nxS (ltS s y c).2) else ltS s y c := rfl
theorem drw_le (y : Int32) : drw y ≤ 83 := by unfold drw; omega
theorem ltS_e {s : AS} (ok : aOK s) (y : Int32) : ∀ c, aD (ltS s y c).1 = aD s ∧ aN (ltS s y c).1 = aN s ∧ aP (ltS s y c).1 = aP s ∧ (∀ c' k, k ≠ 3 → aC (ltS s y c).1 c' k = aC s c' k) ∧ ∀ c', c' < aN s → aC (ltS s y c).1 c' 3 ≤ 83
  | 0 => ⟨rfl, rfl, rfl, fun _ _ _ => rfl, fun c' h => (ok.c h).2.2.2.1⟩
  | c + 1 => by
    obtain ⟨h1, h2, h3, h4, h5⟩ := ltS_e ok y c
    rw [ltS_s]
    split
    · refine ⟨h1, h2, h3, fun c' k hk => ?_, fun c' hc => ?_⟩
      · rw [aC_setC, if_neg (fun z => hk z.2)]; exact h4 c' k hk
      · rw [aC_setC]
        split
        · exact drw_le _
        · exact h5 c' hc
    · exact ⟨h1, h2, h3, h4, h5⟩
theorem ltS_ok {s : AS} (ok : aOK s) (y : Int32) (c : Nat) : aOK (ltS s y c).1 := by
  obtain ⟨h1, h2, h3, h4, h5⟩ := ltS_e ok y c
  have hU : aU (ltS s y c).1 (aN s) = aU s (aN s) := aU_congr _ fun c' _ => h4 c' 4 (by decide)
  have hP : ∀ v, v < 2 → okP (ltS s y c).1 v := fun v hv => by
    have := ok.p hv
    unfold okP at *
    rw [h1, h2, h3, hU]
    exact this
  refine ⟨by rw [h1]; exact ok.1, by rw [h2]; exact ok.2.1, hP 0 (by decide), hP 1 (by decide), fun c' hc => ?_⟩
  rw [h2] at hc
  obtain ⟨a0, a1, a2, a3, a4⟩ := ok.c hc
  exact ⟨by rw [h4 c' 0 (by decide)]; exact a0, by rw [h4 c' 1 (by decide)]; exact a1, by rw [h4 c' 2 (by decide)]; exact a2, h5 c' hc, by rw [h4 c' 4 (by decide)]; exact a4⟩
theorem ltS_cut {s : AS} {y : Int32} {N : Nat} (h : ∀ c, N ≤ c → aX s c = true → False) : ∀ k, ltS s y (N + k) = ltS s y N
  | 0 => rfl
  | k + 1 => by
    show ltS s y (N + k + 1) = _
    rw [ltS_s, if_neg (fun z => h (N + k) (by omega) z), ltS_cut h k]
def ltY (s : AS) : Nat → Int32 → Nat → Nat
  | 0, _, a => a
  | k + 1, y, a => ltY s k (ltS s y (aN s)).2 (a + (aP (toS (ltS s y (aN s)).1 (83 - aD s)) 0 2 + aP (toS (ltS s y (aN s)).1 (83 - aD s)) 1 2))
theorem op_lots {σ : GS} (ok : GOK σ) {z1 z2 : Int} (h1 : iB z1) (h2 : iB z2) : OP 89 263 [qI (zI z1), qI (zI z2)] σ := by
  have b1 := h1.1
  have b2 := h1.2
  have bD := ok.1.1
  have n12 := ok.1.2.1
  have eM : ∀ d μ, MI μ σ → qcall qprogs (d + 30) 263 [qR (24, 0, 0), qI (zI z1), qI (zI z2)] μ = if zI (if z1 < 1 then (-4 : Int) else if 20 < z1 then -6 else 0) = 0 then qx (d + 29) qc_M_lots 18 [some (qR (24, 0, 0)), some (qI (zI z1)), some (qI (zI z2)), none, none, none, none, none] [] μ else qbI (qcall qprogs (d + 29) 152 [qR (24, 0, 0), qI (zI (if z1 < 1 then (-4 : Int) else if 20 < z1 then -6 else 0))] μ) (fun x4 μ3 => some (some (qI x4), μ3)) := fun d μ h => by
    rw [qe_M_lots, qb_M_lots_0]
    simp only [zI_of]
    rw [c_M_bound (d + 28) (by omega), qbI_some]
  by_cases e1 : z1 < 1
  · refine ⟨qI (zI (-4)), refS σ 4, fun d μ h => ?_, fun d μ h => ?_, ok.ref⟩
    · rw [qe_J_lots, qb_J_lots_0]
      simp only [zI_of]
      rw [if_neg (by rw [zI_le (by omega)]; omega)]
      exact j_ref1 (d := d + 28) (f := -4) h (by decide)
    · rw [eM d μ h, if_pos e1, if_neg (by decide +kernel)]
      exact m_ref1 (d := d + 28) (f := -4) h (by decide)
  · by_cases e2 : 20 < z1
    · refine ⟨qI (zI (-6)), refS σ 6, fun d μ h => ?_, fun d μ h => ?_, ok.ref⟩
      · rw [qe_J_lots, qb_J_lots_0]
        simp only [zI_of]
        rw [if_pos (by rw [zI_le (by omega)]; omega), qb_J_lots_12]
        simp only [zI_of]
        rw [if_neg (by rw [zI_le (by omega)]; omega)]
        exact j_ref1 (d := d + 28) (f := -6) h (by decide)
      · rw [eM d μ h, if_neg e1, if_pos e2, if_neg (by decide +kernel)]
        exact m_ref1 (d := d + 28) (f := -6) h (by decide)
    · obtain ⟨N, rfl, hN⟩ : ∃ N : Nat, z1 = N ∧ N ≤ 20 := ⟨z1.toNat, by omega, by omega⟩
      refine ⟨qI (zI (ltY (gS σ) N (zI z2) 0 : Nat)), σ, fun d μ h => ?_, fun d μ h => ?_, ok⟩
      · have L2 : ∀ (y : Int32) (a i : Nat) r c (μ1 : QM), c + r = 12 → CI μ1 σ → RA μ1 1 (ltS (gS σ) y (min c (aN (gS σ)))).1 → ∃ μ2, qx (d + 29) qc_J_lots 53 [some (qR (0, 0, 0)), some (qI (zI (N : Nat))), none, some (qI (ltS (gS σ) y (min c (aN (gS σ)))).2), some (qI (zI (a : Nat))), some (qI (zI (i : Nat))), some (qI (zI (c : Nat))), none] [] μ1 = qx (d + 29) qc_J_lots 116 [some (qR (0, 0, 0)), some (qI (zI (N : Nat))), none, some (qI (ltS (gS σ) y (aN (gS σ))).2), some (qI (zI (a : Nat))), some (qI (zI (i : Nat))), none, none] [] μ2 ∧ CI μ2 σ ∧ Fr isCl μ1 μ2 ∧ RA μ2 1 (ltS (gS σ) y (aN (gS σ))).1 := by
          intro y a i r
          induction r with
          | zero =>
            intro c μ1 hc h hA
            rw [show min c (aN (gS σ)) = aN (gS σ) by omega] at hA ⊢
            rw [qb_J_lots_53, zI_of, if_pos (by rw [zI_le (by omega)]; omega)]
            exact ⟨μ1, rfl, h, Fr.rf, hA⟩
          | succ r ih =>
            intro c μ1 hc h hA
            rw [qb_J_lots_53]
            simp only [zI_of]
            rw [if_neg (by rw [zI_le (by omega)]; omega)]
            by_cases q : c < aN (gS σ)
            · obtain ⟨l1, l2, l3, l4, l5⟩ := ltS_e ok.1 y (min c (aN (gS σ)))
              have okl := ltS_ok ok.1 y (min c (aN (gS σ)))
              have b4 := (ok.1.c q).2.2.2.2
              have r4 := hA.c 4 (show c < aN (ltS (gS σ) y (min c (aN (gS σ)))).1 by rw [l2]; exact q)
              rw [l4 c 4 (by decide)] at r4
              rw [c_Affair_causeAt (d + 28) (show 1 < 11 by decide) hA okl (by rw [l2]; exact q), qbN_some (qd1 (by decide) (by omega)), r4, qbz_z b4]
              rw [show min c (aN (gS σ)) = c by omega] at *
              by_cases q2 : aC (gS σ) c 4 = 0
              · have f1 : Fr (isA 1) μ1 (qsi μ1 (1, 1, c) 3 (zI (drw (nxS (ltS (gS σ) y c).2) : Nat))) := Fr.si ⟨Or.inl rfl, rfl⟩
                have ci := h.mind f1
                have es : ltS (gS σ) y (c + 1) = (setC (ltS (gS σ) y c).1 c 3 (drw (nxS (ltS (gS σ) y c).2)), nxS (ltS (gS σ) y c).2) := by
                  rw [ltS_s, if_pos (by simp [aX, q2])]
                have hA2 : RA (qsi μ1 (1, 1, c) 3 (zI (drw (nxS (ltS (gS σ) y c).2) : Nat))) 1 (ltS (gS σ) y (c + 1)).1 := by
                  rw [es]
                  exact hA.sC (by decide) (by decide)
                have i1 := ih (c + 1) _ (by omega) ci.1 (by rw [show min (c + 1) (aN (gS σ)) = c + 1 by omega]; exact hA2)
                rw [show min (c + 1) (aN (gS σ)) = c + 1 by omega, es] at i1
                obtain ⟨μ2, x1, x2, x3, x4⟩ := i1
                refine ⟨μ2, ?_, x2, ci.2.tr x3, x4⟩
                rw [if_pos (by rw [q2]; exact zI0), if_neg (by decide +kernel), show (ltS (gS σ) y c).2 * zI 1103515245 + zI 12345 = nxS (ltS (gS σ) y c).2 from rfl, drwJ, qb_J_lots_110, zI_of, zI_add]
                exact x1
              · have es : ltS (gS σ) y (c + 1) = ltS (gS σ) y c := by
                  rw [ltS_s, if_neg (by simp [aX, q2])]
                have i1 := ih (c + 1) μ1 (by omega) h (by rw [show min (c + 1) (aN (gS σ)) = c + 1 by omega, es]; exact hA)
                rw [show min (c + 1) (aN (gS σ)) = c + 1 by omega, es] at i1
                obtain ⟨μ2, x1, x2, x3, x4⟩ := i1
                refine ⟨μ2, ?_, x2, x3, x4⟩
                rw [if_neg (by rw [zI_0, zI_eq (by omega)]; omega), qb_J_lots_110, zI_of, zI_add]
                exact x1
            · have okl := ltS_ok ok.1 y (min c (aN (gS σ)))
              obtain ⟨l1, l2, l3, l4, l5⟩ := ltS_e ok.1 y (min c (aN (gS σ)))
              rw [c_Affair_causeAtN (d + 28) (show 1 < 11 by decide) hA okl (by rw [l2, zI_int (by omega) (by omega)]; omega), qbN_none]
              rw [show min c (aN (gS σ)) = aN (gS σ) by omega] at *
              have i1 := ih (c + 1) μ1 (by omega) h (by rw [show min (c + 1) (aN (gS σ)) = aN (gS σ) by omega]; exact hA)
              rw [show min (c + 1) (aN (gS σ)) = aN (gS σ) by omega] at i1
              obtain ⟨μ2, x1, x2, x3, x4⟩ := i1
              refine ⟨μ2, ?_, x2, x3, x4⟩
              rw [qb_J_lots_110, zI_of, zI_add]
              exact x1
        have L : ∀ r i (y : Int32) (a : Nat) (μ1 : QM), i + r = N → CI μ1 σ → ∃ μ2, qx (d + 29) qc_J_lots 33 [some (qR (0, 0, 0)), some (qI (zI (N : Nat))), none, some (qI y), some (qI (zI (a : Nat))), some (qI (zI (i : Nat))), none, none] [] μ1 = some (some (qI (zI (ltY (gS σ) r y a : Nat))), μ2) ∧ CI μ2 σ ∧ Fr isCl μ1 μ2 := by
          intro r
          induction r with
          | zero =>
            intro i y a μ1 hi h
            rw [qb_J_lots_33, if_pos (by rw [zI_le (by omega)]; omega), qb_J_lots_157]
            exact ⟨μ1, rfl, h, Fr.rf⟩
          | succ r ih =>
            intro i y a μ1 hi h
            obtain ⟨μ2, r1, r2, r3, r4⟩ := j_mind (d + 27) h ok
            obtain ⟨μ3, q1, q2, q3, q4⟩ := L2 y a i 12 0 μ2 (by decide) r2 (by rw [Nat.zero_min]; exact r4)
            rw [Nat.zero_min] at q1
            have okl := ltS_ok ok.1 y (aN (gS σ))
            obtain ⟨l1, l2, l3, l4, l5⟩ := ltS_e ok.1 y (aN (gS σ))
            obtain ⟨μ4, t1, t2, t3⟩ := c_Affair_liveTo (d + 25) (n := 83) (show 1 < 11 by decide) q4 okl (by decide)
            rw [l1] at t3
            have ci := q2.mind t2
            obtain ⟨μ5, x1, x2, x3⟩ := ih (i + 1) (ltS (gS σ) y (aN (gS σ))).2 (a + (aP (toS (ltS (gS σ) y (aN (gS σ))).1 (83 - aD (gS σ))) 0 2 + aP (toS (ltS (gS σ) y (aN (gS σ))).1 (83 - aD (gS σ))) 1 2)) μ4 (by omega) ci.1
            refine ⟨μ5, ?_, x2, r3.tr (q3.tr (ci.2.tr x3))⟩
            rw [qb_J_lots_33, if_neg (by rw [zI_le (by omega)]; omega), r1, qbV_some]
            simp only [zI_of]
            refine Eq.trans q1 ?_
            rw [qb_J_lots_116, zI_of, show zI (83 : Int) = zI ((83 : Nat) : Int) from rfl, t1, qbV_some, t3.p 2 (show 0 < 2 by decide), t3.p 2 (show 1 < 2 by decide), zI_addN, zI_addN, zI_of, zI_add]
            exact x1
        obtain ⟨μ2, x1, x2, x3⟩ := L N 0 (zI z2) 0 μ (by omega) h
        refine ⟨μ2, ?_, x2, x3⟩
        rw [qe_J_lots, qb_J_lots_0]
        simp only [zI_of]
        rw [if_pos (by rw [zI_le (by omega)]; omega), qb_J_lots_12]
        simp only [zI_of]
        rw [if_pos (by rw [zI_le (by omega)]; omega), qb_J_lots_25]
        simp only [zI_of]
        exact x1
      · have L2 : ∀ (y : Int32) (a i : Nat) (μ0 : QM) r c (μ1 : QM), c + r = aN (gS σ) → FrS μ0 μ1 → RM μ1 (ltS (gS σ) y c).1 → ∃ μ2, qx (d + 29) qc_M_lots 42 [some (qR (24, 0, 0)), some (qI (zI (N : Nat))), none, none, some (qI (ltS (gS σ) y c).2), some (qI (zI (a : Nat))), some (qI (zI (i : Nat))), some (qI (zI (c : Nat)))] [] μ1 = qx (d + 29) qc_M_lots 103 [some (qR (24, 0, 0)), some (qI (zI (N : Nat))), none, none, some (qI (ltS (gS σ) y (aN (gS σ))).2), some (qI (zI (a : Nat))), some (qI (zI (i : Nat))), none] [] μ2 ∧ FrS μ0 μ2 ∧ RM μ2 (ltS (gS σ) y (aN (gS σ))).1 := by
          intro y a i μ0 r
          induction r with
          | zero =>
            intro c μ1 hc f hA
            obtain ⟨l1, l2, l3, l4, l5⟩ := ltS_e ok.1 y c
            rw [qb_M_lots_42, hA.cnt, l2, if_pos (by rw [zI_le (by omega)]; omega)]
            rw [show c = aN (gS σ) by omega] at hA ⊢
            exact ⟨μ1, rfl, f, hA⟩
          | succ r ih =>
            intro c μ1 hc f hA
            have q : c < aN (gS σ) := by omega
            obtain ⟨l1, l2, l3, l4, l5⟩ := ltS_e ok.1 y c
            have b4 := (ok.1.c q).2.2.2.2
            have r4 := hA.us (show c < aN (ltS (gS σ) y c).1 by rw [l2]; exact q)
            rw [l4 c 4 (by decide)] at r4
            rw [qb_M_lots_42, hA.cnt, l2, if_neg (by rw [zI_le (by omega)]; omega), zI_oob (n := 12) (by omega), cond_false, show qix (zI (c : Nat)) = c from zI_ixN (by omega), r4]
            simp only [zI_of]
            by_cases q2 : aC (gS σ) c 4 = 0
            · have es : ltS (gS σ) y (c + 1) = (setC (ltS (gS σ) y c).1 c 3 (drw (nxS (ltS (gS σ) y c).2)), nxS (ltS (gS σ) y c).2) := by
                rw [ltS_s, if_pos (by simp [aX, q2])]
              have i1 := ih (c + 1) (qsi μ1 (34, 0, 0) c (zI (drw (nxS (ltS (gS σ) y c).2) : Nat))) (by omega) (f.tr (FrS.row (by decide))) (by rw [es]; exact hA.sFo)
              rw [es] at i1
              obtain ⟨μ2, x1, x2, x3⟩ := i1
              refine ⟨μ2, ?_, x2, x3⟩
              rw [if_neg (by rw [zI_eq (by omega)]; omega), qb_M_lots_65]
              simp only [zI_of]
              rw [if_neg (by decide +kernel), if_neg (by decide +kernel), zI_oob (n := 12) (by omega), cond_false, show qix (zI (c : Nat)) = c from zI_ixN (by omega), show (ltS (gS σ) y c).2 * zI 1103515245 + zI 12345 = nxS (ltS (gS σ) y c).2 from rfl, drwM, qb_M_lots_97, zI_of, zI_add]
              exact x1
            · have es : ltS (gS σ) y (c + 1) = ltS (gS σ) y c := by
                rw [ltS_s, if_neg (by simp [aX, q2])]
              have i1 := ih (c + 1) μ1 (by omega) f (by rw [es]; exact hA)
              rw [es] at i1
              obtain ⟨μ2, x1, x2, x3⟩ := i1
              refine ⟨μ2, ?_, x2, x3⟩
              rw [if_pos (by rw [zI_eq (by omega)]; omega), qb_M_lots_97, zI_of, zI_add]
              exact x1
        have L : ∀ r i (y : Int32) (a : Nat) (μ1 : QM), i + r = N → MI μ1 σ → ∃ μ2, qx (d + 29) qc_M_lots 27 [some (qR (24, 0, 0)), some (qI (zI (N : Nat))), none, none, some (qI y), some (qI (zI (a : Nat))), some (qI (zI (i : Nat))), none] [] μ1 = some (some (qI (zI (ltY (gS σ) r y a : Nat))), μ2) ∧ MI μ2 σ ∧ Fr isMd μ1 μ2 := by
          intro r
          induction r with
          | zero =>
            intro i y a μ1 hi h
            rw [qb_M_lots_27, if_pos (by rw [zI_le (by omega)]; omega), qb_M_lots_139]
            exact ⟨μ1, rfl, h, Fr.rf⟩
          | succ r ih =>
            intro i y a μ1 hi h
            obtain ⟨μ2, r1, r2, r3, r4⟩ := m_keep1 (d + 27) h ok
            obtain ⟨μ3, q1, q2, q3⟩ := L2 y a i μ2 (aN (gS σ)) 0 μ2 (by omega) FrS.rf r2
            have okl := ltS_ok ok.1 y (aN (gS σ))
            obtain ⟨l1, l2, l3, l4, l5⟩ := ltS_e ok.1 y (aN (gS σ))
            obtain ⟨μ4, t1, t2, t3⟩ := c_M_goesTo (d + 23) (show 83 ≤ 83 by decide) (83 - aD (ltS (gS σ) y (aN (gS σ))).1) q3 okl rfl
            rw [l1] at t3
            obtain ⟨μ5, u1, u2, u3, -⟩ := m_putb1 (d + 27) h ok ((r4.tr q2.r).tr t2.r) ((r3.s q2).s t2)
            obtain ⟨μ6, x1, x2, x3⟩ := ih (i + 1) (ltS (gS σ) y (aN (gS σ))).2 (a + (aP (toS (ltS (gS σ) y (aN (gS σ))).1 (83 - aD (gS σ))) 0 2 + aP (toS (ltS (gS σ) y (aN (gS σ))).1 (83 - aD (gS σ))) 1 2)) μ5 (by omega) u2
            refine ⟨μ6, ?_, x2, u3.tr x3⟩
            rw [qb_M_lots_27, if_neg (by rw [zI_le (by omega)]; omega)]
            simp only [zI_of]
            rw [r1, qbV_some]
            refine Eq.trans q1 ?_
            rw [qb_M_lots_103]
            simp only [zI_of]
            rw [show zI (83 : Int) = zI ((83 : Nat) : Int) from rfl, t1, qbV_some, zI_oob (a := 0) (n := 2) (by omega), zI_oob (a := 1) (n := 2) (by omega), cond_false, cond_false, u1, qbV_some, show qix (zI 0) = 0 from zI_ixN (n := 0) (by omega), show qix (zI 1) = 1 from zI_ixN (n := 1) (by omega), t3.bo (show 0 < 2 by decide), t3.bo (show 1 < 2 by decide), zI_addN, zI_addN, zI_add]
            exact x1
        obtain ⟨μ2, x1, x2, x3⟩ := L N 0 (zI z2) 0 μ (by omega) h
        refine ⟨μ2, ?_, x2, x3⟩
        rw [eM d μ h, if_neg e1, if_neg e2, if_pos zI0, qb_M_lots_18]
        simp only [zI_of]
        exact x1
end
