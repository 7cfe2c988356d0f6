section
/-! calls that change what is -/
theorem aOK.pu {s : AS} (ok : aOK s) {w v : Nat} (hv : v ≤ 999) : aOK (setP s w 1 v) := by
  obtain ⟨h1, h2, h3, h4, h5⟩ := ok
  have hU : ∀ n, aU (setP s w 1 v) n = aU s n := fun n => by
    induction n with
    | zero => rfl
    | succ n ih => show aU (setP s w 1 v) n + aC s n 4 = aU s n + aC s n 4; rw [ih]
  have key : ∀ w', okP s w' → okP (setP s w 1 v) w' := fun w' h => by
    obtain ⟨a1, a2, a3, a4, a5⟩ := h
    have e : ∀ k, k ≠ 1 → aP (setP s w 1 v) w' k = aP s w' k := fun k hk => if_neg (fun z => hk z.2)
    refine ⟨by rw [e 0 (by decide)]; exact a1, ?_, by rw [e 2 (by decide)]; exact a3, by rw [e 3 (by decide)]; show _ ≤ 29 * aU (setP s w 1 v) (aN s); rw [hU]; exact a4, by rw [e 4 (by decide)]; exact a5⟩
    show (if w' = w ∧ 1 = 1 then v else aP s w' 1) ≤ 999
    split <;> omega
  exact ⟨h1, h2, key 0 h3, key 1 h4, h5⟩
theorem op_set {σ : GS} (ok : GOK σ) {z1 z2 z3 : Int} (h1 : iB z1) (h2 : iB z2) (h3 : iB z3) : OP 61 187 [qI (zI z1), qI (zI z2), qI (zI z3)] σ := by
  have b3 := h2.1
  have b4 := h2.2
  have b5 := h3.1
  have b6 := h3.2
  by_cases hz : z1 = 0 ∨ z1 = 1
  · have eJ : ∀ d μ, CI μ σ → qcall qprogs (d + 30) 61 [qR (0, 0, 0), qI (zI z1), qI (zI z2), qI (zI z3)] μ = qx (d + 29) qc_J_set 13 [some (qR (0, 0, 0)), some (qI (zI z1)), some (qI (zI z2)), some (qI (zI z3)), none, none] [] μ := fun d μ h => by
      rw [qe_J_set, qb_J_set_0, c_J_isNobody (d + 28) h1, qbI_some, decide_eq_true hz, if_pos (by decide)]
    have eM : ∀ d μ, MI μ σ → qcall qprogs (d + 30) 187 [qR (24, 0, 0), qI (zI z1), qI (zI z2), qI (zI z3)] μ = qx (d + 29) qc_M_set 11 [some (qR (24, 0, 0)), some (qI (zI z1)), some (qI (zI z2)), some (qI (zI z3)), none, none] [] μ := fun d μ h => by
      rw [qe_M_set, qb_M_set_0, c_M_isOne (d + 28) h1, qbI_some, decide_eq_true hz, if_neg (by decide)]
    by_cases hk : 0 ≤ z2 ∧ z2 ≤ 1
    · have fJ : ∀ d μ, CI μ σ → qcall qprogs (d + 30) 61 [qR (0, 0, 0), qI (zI z1), qI (zI z2), qI (zI z3)] μ = qx (d + 29) qc_J_set 29 [some (qR (0, 0, 0)), some (qI (zI z1)), some (qI (zI z2)), some (qI (zI z3)), none, none] [] μ := fun d μ h => by
        rw [eJ d μ h, qb_J_set_13]
        simp (disch := omega) only [zI_of, zI_0, zI_1, zI_add, zI_sub, zI_mul, zI_neg, zI_lt, zI_le, zI_eq, zI_rem, zI_oob, zI_ixN, zI_ix, zI_ite, zI10, zI01, Int.toNat_natCast, cond_false, cond_true, q01_0, q01_1, q01_0z, q01_1z, qB_if, qB_ifz, qB_ret, qB_retz, qbI_some, qbV_some, qbL_some, qbR_some, qbN_some, qbN_none, true_or, or_true, false_or, or_false, if_true, if_false, Int.reduceEq, Int.reduceLT, Int.reduceLE, Int.reduceNeg]
        by_cases e : z2 = 0
        · rw [if_pos e]
        · rw [if_neg e, if_pos (by omega)]
      have fM : ∀ d μ, MI μ σ → qcall qprogs (d + 30) 187 [qR (24, 0, 0), qI (zI z1), qI (zI z2), qI (zI z3)] μ = qx (d + 29) qc_M_set 42 [some (qR (24, 0, 0)), some (qI (zI z1)), some (qI (zI z2)), some (qI (zI z3)), none, none] [qI (zI (if z3 < 0 then -4 else if (if z2 = 0 then 6 else 999) < z3 then -6 else 0))] μ := fun d μ h => by
        rw [eM d μ h, qb_M_set_11]
        simp only [zI_of]
        rw [c_M_isIn (d + 28) (by omega), qbI_some, show (decide ((0 : Int) ≤ z2) && decide (z2 ≤ 1)) = true by simp [hk], if_neg (by decide), qb_M_set_25]
        simp only [zI_of]
        by_cases e : z2 = 0
        · rw [if_pos (show zI z2 = 0 by rw [e]; exact zI0), qb_M_set_39, c_M_bound (d + 28) (by omega), qbI_some, if_pos e]
        · rw [if_neg (show ¬ zI z2 = 0 by rw [zI_0, zI_eq (by omega)]; exact e), qb_M_set_36, qb_M_set_39, zI_of, c_M_bound (d + 28) (by omega), qbI_some, if_neg e]
      by_cases hv : z3 < 0
      · refine ⟨qI (zI (-4)), refS σ 4, fun d μ h => ?_, fun d μ h => ?_, ok.ref⟩
        · rw [fJ d μ h, qb_J_set_29, if_neg (by rw [zI_0, zI_le (by omega)]; omega), zI_of]
          exact j_ref1 (d := d + 28) (f := -4) h (by decide)
        · rw [fM d μ h, if_pos hv, qb_M_set_42, if_neg (by decide +kernel)]
          exact m_ref1 (d := d + 28) (f := -4) h (by decide)
      · by_cases hv2 : (if z2 = 0 then 6 else 999) < z3
        · refine ⟨qI (zI (-6)), refS σ 6, fun d μ h => ?_, fun d μ h => ?_, ok.ref⟩
          · rw [fJ d μ h, qb_J_set_29, if_pos (by rw [zI_0, zI_le (by omega)]; omega), qb_J_set_40]
            simp only [zI_of]
            by_cases e : z2 = 0
            · rw [if_pos e] at hv2
              rw [if_pos (show zI z2 = 0 by rw [e]; exact zI0), qb_J_set_53, if_neg (by rw [zI_le (by omega)]; omega), zI_of]
              exact j_ref1 (d := d + 28) (f := -6) h (by decide)
            · rw [if_neg e] at hv2
              rw [if_neg (show ¬ zI z2 = 0 by rw [zI_0, zI_eq (by omega)]; exact e), qb_J_set_50, qb_J_set_53]
              simp only [zI_of]
              rw [if_neg (by rw [zI_le (by omega)]; omega)]
              exact j_ref1 (d := d + 28) (f := -6) h (by decide)
          · rw [fM d μ h, if_neg hv, if_pos hv2, qb_M_set_42, if_neg (by decide +kernel)]
            exact m_ref1 (d := d + 28) (f := -6) h (by decide)
        · obtain ⟨w, rfl, hw⟩ : ∃ w : Nat, z1 = w ∧ w < 2 := ⟨z1.toNat, by omega, by omega⟩
          obtain ⟨v, rfl⟩ : ∃ v : Nat, z3 = v := ⟨z3.toNat, by omega⟩
          have gJ : ∀ d μ, CI μ σ → qcall qprogs (d + 30) 61 [qR (0, 0, 0), qI (zI (w : Nat)), qI (zI z2), qI (zI (v : Nat))] μ = qx (d + 29) qc_J_set 63 [some (qR (0, 0, 0)), some (qI (zI (w : Nat))), some (qI (zI z2)), some (qI (zI (v : Nat))), none, none] [] μ := fun d μ h => by
            rw [fJ d μ h, qb_J_set_29, if_pos (by rw [zI_0, zI_le (by omega)]; omega), qb_J_set_40]
            simp only [zI_of]
            by_cases e : z2 = 0
            · rw [if_pos e] at hv2
              rw [if_pos (show zI z2 = 0 by rw [e]; exact zI0), qb_J_set_53, if_pos (by rw [zI_le (by omega)]; omega)]
            · rw [if_neg e] at hv2
              rw [if_neg (show ¬ zI z2 = 0 by rw [zI_0, zI_eq (by omega)]; exact e), qb_J_set_50, qb_J_set_53, zI_of, if_pos (by rw [zI_le (by omega)]; omega)]
          have gM : ∀ d μ, MI μ σ → qcall qprogs (d + 30) 187 [qR (24, 0, 0), qI (zI (w : Nat)), qI (zI z2), qI (zI (v : Nat))] μ = qx (d + 29) qc_M_set 56 [some (qR (24, 0, 0)), some (qI (zI (w : Nat))), some (qI (zI z2)), some (qI (zI (v : Nat))), none, none] [] μ := fun d μ h => by
            rw [fM d μ h, if_neg hv, if_neg hv2, qb_M_set_42, if_pos zI0]
          have cJ : ∀ (k : Nat) (μ : QM), k < 2 → CI μ σ → CI (qsi (qsi μ (0, 0, 0) 5 (zI 0)) (3, 0, w) k (zI (v : Nat))) (chS σ (setP (gS σ) w k v) 0) ∧ Fr isCl μ (qsi (qsi μ (0, 0, 0) 5 (zI 0)) (3, 0, w) k (zI (v : Nat))) := fun k μ _ h => by
            refine h.ch (Nat.zero_le _) ((Fr.si (Or.inr rfl)).si' (Or.inl ⟨Or.inr (Or.inr rfl), rfl⟩)) ((h.1.1.hd (Fr.si (Or.inl rfl))).sP) ?_ fun j hj => ?_
            · rw [qsi_ne (by simp), qsi_self]; rfl
            · rw [qsi_ne (by simp), qsi_get, if_neg (fun z => hj z.2)]
          have cM : ∀ (k : Nat) (μ : QM), k < 2 → MI μ σ → MI (qsi (qsi μ (24, 0, 0) 24 (zI 0)) (26 + k, 0, 0) w (zI (v : Nat))) (chS σ (setP (gS σ) w k v) 0) ∧ Fr isMd μ (qsi (qsi μ (24, 0, 0) 24 (zI 0)) (26 + k, 0, 0) w (zI (v : Nat))) := fun k μ hk h => by
            refine h.ch ok (Nat.zero_le _) ((Fr.si (Or.inl rfl)).si' (Or.inr (Or.inl (by dsimp only; omega)))) ((h.1.fld (by decide)).sP (by omega)) ?_ (fun j hj => ?_) fun x _ => ?_
            · rw [qsi_ne (by simp; omega), qsi_self]; rfl
            · rw [qsi_ne (by simp; omega), qsi_get, if_neg (by omega)]
            · rw [qsi_ne (by simp; omega), qsi_ne (by simp)]
          by_cases e : z2 = 0
          · subst e
            rw [if_pos rfl] at hv2
            refine ⟨qI (zI (aP (gS σ) w 0 : Nat)), chS σ (setP (gS σ) w 0 v) 0, fun d μ h => ⟨_, ?_, cJ 0 μ (by decide) h⟩, fun d μ h => ⟨_, ?_, cM 0 μ (by decide) h⟩, ok.ch (ok.1.wd (by omega)) (Nat.zero_le _)⟩
            · rw [gJ d μ h, qb_J_set_63, zI_of, c_Affair_person (d + 28) (show 0 < 11 by decide) hw, qbR_some (qd3 (by decide) hw), if_pos zI0, qsi_ne (by simp), h.1.1.p 0 hw, qb_J_set_95, if_pos zI0, qb_J_set_116]
            · rw [gM d μ h, qb_M_set_56, if_pos zI0, zI_oob (n := 2) (by omega), cond_false, zI_of, qsi_ne (by simp), show qix (zI (w : Nat)) = w from zI_ixN (by omega), h.1.wd hw, qb_M_set_80, if_pos zI0, zI_oob (n := 2) (by omega), cond_false, show qix (zI (w : Nat)) = w from zI_ixN (by omega), qb_M_set_103]
          · have e1 : z2 = 1 := by omega
            subst e1
            rw [if_neg e] at hv2
            refine ⟨qI (zI (aP (gS σ) w 1 : Nat)), chS σ (setP (gS σ) w 1 v) 0, fun d μ h => ⟨_, ?_, cJ 1 μ (by decide) h⟩, fun d μ h => ⟨_, ?_, cM 1 μ (by decide) h⟩, ok.ch (ok.1.pu (by omega)) (Nat.zero_le _)⟩
            · rw [gJ d μ h, qb_J_set_63, zI_of, c_Affair_person (d + 28) (show 0 < 11 by decide) hw, qbR_some (qd3 (by decide) hw), if_neg (show ¬ zI 1 = 0 by decide +kernel), qb_J_set_90, qsi_ne (by simp), h.1.1.p 1 hw, qb_J_set_95, if_neg (show ¬ zI 1 = 0 by decide +kernel), qb_J_set_110, qb_J_set_116]
            · rw [gM d μ h, qb_M_set_56, if_neg (show ¬ zI 1 = 0 by decide +kernel), zI_of, qb_M_set_74, zI_oob (n := 2) (by omega), cond_false, qsi_ne (by simp), show qix (zI (w : Nat)) = w from zI_ixN (by omega), h.1.pu hw, qb_M_set_80, if_neg (show ¬ zI 1 = 0 by decide +kernel), qb_M_set_96, zI_oob (n := 2) (by omega), cond_false, show qix (zI (w : Nat)) = w from zI_ixN (by omega), qb_M_set_103]
    · refine ⟨qI (zI (-2)), refS σ 2, fun d μ h => ?_, fun d μ h => ?_, ok.ref⟩
      · rw [eJ d μ h, qb_J_set_13]
        simp only [zI_of]
        rw [if_neg (by rw [zI_0, zI_eq (by omega)]; omega), if_neg (by rw [zI_eq (by omega)]; omega)]
        exact j_ref1 (d := d + 28) (f := -2) h (by decide)
      · rw [eM d μ h, qb_M_set_11]
        simp only [zI_of]
        rw [c_M_isIn (d + 28) (by omega), qbI_some, show (decide ((0 : Int) ≤ z2) && decide (z2 ≤ 1)) = false by rw [← Bool.decide_and]; exact decide_eq_false hk, if_pos (by decide), qb_M_set_42, if_neg (by decide +kernel)]
        exact m_ref1 (d := d + 28) (f := -2) h (by decide)
  · refine ⟨qI (zI (-1)), refS σ 1, fun d μ h => ?_, fun d μ h => ?_, ok.ref⟩
    · rw [qe_J_set, qb_J_set_0, c_J_isNobody (d + 28) h1, qbI_some, decide_eq_false hz, if_neg (by decide)]
      exact j_ref1 (d := d + 28) (f := -1) h (by decide)
    · rw [qe_M_set, qb_M_set_0, c_M_isOne (d + 28) h1, qbI_some, decide_eq_false hz, if_pos (by decide), zI_of, qb_M_set_42, if_neg (by decide +kernel)]
      exact m_ref1 (d := d + 28) (f := -1) h (by decide)
theorem c_M_adds (d : Nat) {k f w x : Nat} {s : AS} {μ : QM} (h : RM μ s) (hn : aN s < 12) :
    ∃ μ', qcall qprogs (d + 1) 180 [qR (24, 0, 0), qI (zI (k : Nat)), qI (zI (f : Nat)), qI (zI (w : Nat)), qI (zI (x : Nat))] μ = some (none, μ') ∧ FrS μ μ' ∧ RM μ' (addC s k f w x) := by
  refine ⟨qsi (qsi (qsi (qsi (qsi (qsi μ (31, 0, 0) (aN s) (zI (k : Nat))) (32, 0, 0) (aN s) (zI (f : Nat))) (33, 0, 0) (aN s) (zI (w : Nat))) (34, 0, 0) (aN s) (zI (x : Nat))) (35, 0, 0) (aN s) (zI 0)) (24, 0, 0) 11 (zI ((aN s + 1 : Nat) : Int)), ?_, ?_, ?_⟩
  · rw [qe_M_adds, qb_M_adds_0]
    simp only [qsi_ne (show ((24, 0, 0) : QA) ≠ (31, 0, 0) by decide), qsi_ne (show ((24, 0, 0) : QA) ≠ (32, 0, 0) by decide), qsi_ne (show ((24, 0, 0) : QA) ≠ (33, 0, 0) by decide), qsi_ne (show ((24, 0, 0) : QA) ≠ (34, 0, 0) by decide), qsi_ne (show ((24, 0, 0) : QA) ≠ (35, 0, 0) by decide), h.cnt, zI_of, zI_add]
    rw [zI_oob (n := 12) (by omega), cond_false, cond_false, cond_false, cond_false, cond_false, show qix (zI (aN s : Nat)) = aN s from zI_ixN (by omega)]
    rfl
  · exact ((((((FrS.row (by decide)).tr (FrS.row (by decide))).tr (FrS.row (by decide))).tr (FrS.row (by decide))).tr (FrS.row (by decide))).tr (FrS.fld (by decide)))
  · refine ⟨by rw [qsi_get, if_neg (by simp), qsi_ne (by simp), qsi_ne (by simp), qsi_ne (by simp), qsi_ne (by simp), qsi_ne (by simp)]; exact h.day, qsi_self _ _ _ _, fun w' j hw hj => ?_, fun c j hc hj => ?_⟩
    · rw [qsi_ne (by simp; omega), qsi_ne (by simp; omega), qsi_ne (by simp; omega), qsi_ne (by simp; omega), qsi_ne (by simp; omega), qsi_ne (by simp; omega)]
      exact h.p j hw hj
    · have hc : c < aN s + 1 := hc
      show _ = zI ((if c = aN s then (if j = 0 then k else if j = 1 then f else if j = 2 then w else if j = 3 then x else 0) else aC s c j : Nat) : Int)
      rcases (by omega : j = 0 ∨ j = 1 ∨ j = 2 ∨ j = 3 ∨ j = 4) with rfl | rfl | rfl | rfl | rfl
      · rw [qsi_ne (by simp), qsi_ne (by simp), qsi_ne (by simp), qsi_ne (by simp), qsi_ne (by simp), qsi_get]
        by_cases e : c = aN s
        · rw [if_pos ⟨rfl, e⟩, if_pos e]; rfl
        · rw [if_neg (fun z => e z.2), if_neg e]; exact h.c 0 (by omega)
      · rw [qsi_ne (by simp), qsi_ne (by simp), qsi_ne (by simp), qsi_ne (by simp), qsi_get]
        by_cases e : c = aN s
        · rw [if_pos ⟨rfl, e⟩, if_pos e]; rfl
        · rw [if_neg (fun z => e z.2), if_neg e, qsi_ne (by simp)]; exact h.c 1 (by omega)
      · rw [qsi_ne (by simp), qsi_ne (by simp), qsi_ne (by simp), qsi_get]
        by_cases e : c = aN s
        · rw [if_pos ⟨rfl, e⟩, if_pos e]; rfl
        · rw [if_neg (fun z => e z.2), if_neg e, qsi_ne (by simp), qsi_ne (by simp)]; exact h.c 2 (by omega)
      · rw [qsi_ne (by simp), qsi_ne (by simp), qsi_get]
        by_cases e : c = aN s
        · rw [if_pos ⟨rfl, e⟩, if_pos e]; rfl
        · rw [if_neg (fun z => e z.2), if_neg e, qsi_ne (by simp), qsi_ne (by simp), qsi_ne (by simp)]; exact h.c 3 (by omega)
      · rw [qsi_ne (by simp), qsi_get]
        by_cases e : c = aN s
        · rw [if_pos ⟨rfl, e⟩, if_pos e]; rfl
        · rw [if_neg (fun z => e z.2), if_neg e, qsi_ne (by simp), qsi_ne (by simp), qsi_ne (by simp), qsi_ne (by simp)]; exact h.c 4 (by omega)
theorem op_add {σ : GS} (ok : GOK σ) {z1 z2 z3 z4 : Int} (h1 : iB z1) (h2 : iB z2) (h3 : iB z3) (h4 : iB z4) : OP 62 188 [qI (zI z1), qI (zI z2), qI (zI z3), qI (zI z4)] σ := by
  have b1 := h1.1
  have b2 := h1.2
  have b3 := h2.1
  have b4 := h2.2
  have b5 := h3.1
  have b6 := h3.2
  have b7 := h4.1
  have b8 := h4.2
  have n12 := ok.1.2.1
  by_cases hz : z3 = 0 ∨ z3 = 1
  · by_cases hk : 0 ≤ z1 ∧ z1 ≤ 5
    · have eJ : ∀ d μ, CI μ σ → qcall qprogs (d + 30) 62 [qR (0, 0, 0), qI (zI z1), qI (zI z2), qI (zI z3), qI (zI z4)] μ = qx (d + 29) qc_J_add 27 [some (qR (0, 0, 0)), some (qI (zI z1)), some (qI (zI z2)), some (qI (zI z3)), some (qI (zI z4))] [] μ := fun d μ h => by
        rw [qe_J_add, qb_J_add_0, c_J_isNobody (d + 28) h3, qbI_some, decide_eq_true hz, if_pos (by decide), qb_J_add_13, c_J_isNoKind (d + 28) h1, qbI_some, decide_eq_true hk, if_pos (by decide)]
      have eM : ∀ d μ, MI μ σ → qcall qprogs (d + 30) 188 [qR (24, 0, 0), qI (zI z1), qI (zI z2), qI (zI z3), qI (zI z4)] μ = qx (d + 29) qc_M_add 25 [some (qR (24, 0, 0)), some (qI (zI z1)), some (qI (zI z2)), some (qI (zI z3)), some (qI (zI z4)), none] [] μ := fun d μ h => by
        rw [qe_M_add, qb_M_add_0, c_M_isOne (d + 28) h3, qbI_some, decide_eq_true hz, if_neg (by decide), qb_M_add_11]
        simp only [zI_of]
        rw [c_M_isIn (d + 28) (by omega), qbI_some, show (decide ((0 : Int) ≤ z1) && decide (z1 ≤ 5)) = true by simp [hk], if_neg (by decide)]
      by_cases ha : z2 < 0 ∨ z4 < 0
      · refine ⟨qI (zI (-4)), refS σ 4, fun d μ h => ?_, fun d μ h => ?_, ok.ref⟩
        · have e : qcall qprogs (d + 30) 62 [qR (0, 0, 0), qI (zI z1), qI (zI z2), qI (zI z3), qI (zI z4)] μ = qx (d + 29) qc_J_add 36 [some (qR (0, 0, 0)), none, none, none, none] [] μ := by
            rw [eJ d μ h, qb_J_add_27]
            by_cases q : z2 < 0
            · rw [if_pos (by rw [zI_0, zI_lt (by omega)]; omega)]
            · rw [if_neg (by rw [zI_0, zI_lt (by omega)]; omega), if_neg (by rw [zI_0, zI_le (by omega)]; omega)]
          rw [e, qb_J_add_36, zI_of]
          exact j_ref1 (d := d + 28) (f := -4) h (by decide)
        · have e : qcall qprogs (d + 30) 188 [qR (24, 0, 0), qI (zI z1), qI (zI z2), qI (zI z3), qI (zI z4)] μ = qx (d + 29) qc_M_add 34 [some (qR (24, 0, 0)), some (qI (zI z1)), some (qI (zI z2)), some (qI (zI z3)), some (qI (zI z4)), none] [] μ := by
            rw [eM d μ h, qb_M_add_25]
            by_cases q : z2 < 0
            · rw [if_pos (by rw [zI_0, zI_lt (by omega)]; omega)]
            · rw [if_neg (by rw [zI_0, zI_lt (by omega)]; omega), if_neg (by rw [zI_0, zI_le (by omega)]; omega)]
          rw [e, qb_M_add_34, zI_of, qb_M_add_67, if_neg (by decide +kernel)]
          exact m_ref1 (d := d + 28) (f := -4) h (by decide)
      · have fJ : ∀ d μ, CI μ σ → qcall qprogs (d + 30) 62 [qR (0, 0, 0), qI (zI z1), qI (zI z2), qI (zI z3), qI (zI z4)] μ = qx (d + 29) qc_J_add 43 [some (qR (0, 0, 0)), some (qI (zI z1)), some (qI (zI z2)), some (qI (zI z3)), some (qI (zI z4))] [] μ := fun d μ h => by
          rw [eJ d μ h, qb_J_add_27, if_neg (by rw [zI_0, zI_lt (by omega)]; omega), if_pos (by rw [zI_0, zI_le (by omega)]; omega)]
        have fM : ∀ d μ, MI μ σ → qcall qprogs (d + 30) 188 [qR (24, 0, 0), qI (zI z1), qI (zI z2), qI (zI z3), qI (zI z4)] μ = qx (d + 29) qc_M_add 39 [some (qR (24, 0, 0)), some (qI (zI z1)), some (qI (zI z2)), some (qI (zI z3)), some (qI (zI z4)), none] [] μ := fun d μ h => by
          rw [eM d μ h, qb_M_add_25, if_neg (by rw [zI_0, zI_lt (by omega)]; omega), if_pos (by rw [zI_0, zI_le (by omega)]; omega)]
        by_cases hc : 9 < z2 ∨ 83 < z4 ∨ aN (gS σ) = 12
        · refine ⟨qI (zI (-6)), refS σ 6, fun d μ h => ?_, fun d μ h => ?_, ok.ref⟩
          · have e : qcall qprogs (d + 30) 62 [qR (0, 0, 0), qI (zI z1), qI (zI z2), qI (zI z3), qI (zI z4)] μ = qx (d + 29) qc_J_add 68 [some (qR (0, 0, 0)), none, none, none, none] [] μ := by
              rw [fJ d μ h, qb_J_add_43, h.1.1.cnt]
              simp only [zI_of]
              by_cases q : 9 < z2
              · rw [if_pos (by rw [zI_lt (by omega)]; omega)]
              · rw [if_neg (by rw [zI_lt (by omega)]; omega)]
                by_cases q2 : 83 < z4
                · rw [if_pos (by rw [zI_lt (by omega)]; omega)]
                · rw [if_neg (by rw [zI_lt (by omega)]; omega), if_neg (by rw [zI_lt (by omega)]; omega)]
            rw [e, qb_J_add_68, zI_of]
            exact j_ref1 (d := d + 28) (f := -6) h (by decide)
          · have e : qcall qprogs (d + 30) 188 [qR (24, 0, 0), qI (zI z1), qI (zI z2), qI (zI z3), qI (zI z4)] μ = qx (d + 29) qc_M_add 61 [some (qR (24, 0, 0)), some (qI (zI z1)), some (qI (zI z2)), some (qI (zI z3)), some (qI (zI z4)), none] [] μ := by
              rw [fM d μ h, qb_M_add_39, h.1.cnt]
              simp only [zI_of]
              by_cases q : 9 < z2
              · rw [if_pos (by rw [zI_lt (by omega)]; omega)]
              · rw [if_neg (by rw [zI_lt (by omega)]; omega)]
                by_cases q2 : 83 < z4
                · rw [if_pos (by rw [zI_lt (by omega)]; omega)]
                · rw [if_neg (by rw [zI_lt (by omega)]; omega), if_pos (by rw [zI_eq (by omega)]; omega)]
            rw [e, qb_M_add_61, zI_of, qb_M_add_67, if_neg (by decide +kernel)]
            exact m_ref1 (d := d + 28) (f := -6) h (by decide)
        · obtain ⟨k, rfl, hk5⟩ : ∃ k : Nat, z1 = k ∧ k ≤ 5 := ⟨z1.toNat, by omega, by omega⟩
          obtain ⟨f, rfl, hf⟩ : ∃ k : Nat, z2 = k ∧ k ≤ 9 := ⟨z2.toNat, by omega, by omega⟩
          obtain ⟨w, rfl, hw⟩ : ∃ k : Nat, z3 = k ∧ k < 2 := ⟨z3.toNat, by omega, by omega⟩
          obtain ⟨x, rfl, hx⟩ : ∃ k : Nat, z4 = k ∧ k ≤ 83 := ⟨z4.toNat, by omega, by omega⟩
          have hn : aN (gS σ) < 12 := by omega
          refine ⟨qI (zI (aN (gS σ) : Nat)), chS σ (addC (gS σ) k f w x) 0, fun d μ h => ?_, fun d μ h => ?_, ok.ch (addC_ok ok.1 hn hk5 hf hw hx) (Nat.zero_le _)⟩
          · have hd : Fr isHd μ (qsi μ (0, 0, 0) 5 (zI 0)) := Fr.si (Or.inl rfl)
            obtain ⟨μ1, r1, r2, r3⟩ := c_Affair_bring (d + 26) (j := 0) (k := k) (f := f) (w := w) (x := x) (by decide) (h.1.1.hd hd) hn hk5 hf
            refine ⟨μ1, ?_, h.ch (Nat.zero_le _) ((Fr.si (Or.inr rfl)).tr (r2.mono fun a ha => Or.inl ha)) r3 ?_ fun j hj => ?_⟩
            · rw [fJ d μ h, qb_J_add_43, h.1.1.cnt]
              simp only [zI_of]
              rw [if_neg (by rw [zI_lt (by omega)]; omega), if_neg (by rw [zI_lt (by omega)]; omega), if_pos (by rw [zI_lt (by omega)]; omega), qb_J_add_75]
              simp only [zI_of]
              rw [r1, qbV_some, r3.cnt, zI_sub]
              refine q_ret ?_
              show ((aN (gS σ) + 1 : Nat) : Int) - 1 = _
              omega
            · rw [r2.1 _ (isA_no (Or.inl rfl)), qsi_self]; rfl
            · rw [r2.1 _ (isA_no (Or.inl rfl)), qsi_get, if_neg (fun z => hj z.2)]
          · obtain ⟨μ1, r1, r2, r3⟩ := c_M_adds (d + 28) (k := k) (f := f) (w := w) (x := x) (h.1.fld (k := 24) (v := zI 0) (by decide)) hn
            refine ⟨μ1, ?_, h.ch ok (Nat.zero_le _) ((Fr.si (Or.inl rfl)).tr r2.r.1) r3 ?_ (fun j hj => ?_) fun y _ => ?_⟩
            · rw [fM d μ h, qb_M_add_39, h.1.cnt]
              simp only [zI_of]
              rw [if_neg (by rw [zI_lt (by omega)]; omega), if_neg (by rw [zI_lt (by omega)]; omega), if_neg (by rw [zI_eq (by omega)]; omega), qb_M_add_66, zI_of, qb_M_add_67, if_pos zI0, qb_M_add_81]
              simp only [zI_of]
              rw [r1, qbV_some, r3.cnt, zI_sub]
              refine q_ret ?_
              show ((aN (gS σ) + 1 : Nat) : Int) - 1 = _
              omega
            · rw [r2.2 24 (by decide) (by decide), qsi_self]; rfl
            · rw [r2.2 j (by omega) (by omega), qsi_get, if_neg (by omega)]
            · rw [r2.1.1 _ (by unfold isS; simp), qsi_ne (by simp)]
    · refine ⟨qI (zI (-2)), refS σ 2, fun d μ h => ?_, fun d μ h => ?_, ok.ref⟩
      · rw [qe_J_add, qb_J_add_0, c_J_isNobody (d + 28) h3, qbI_some, decide_eq_true hz, if_pos (by decide), qb_J_add_13, c_J_isNoKind (d + 28) h1, qbI_some, decide_eq_false hk, if_neg (by decide), zI_of]
        exact j_ref1 (d := d + 28) (f := -2) h (by decide)
      · rw [qe_M_add, qb_M_add_0, c_M_isOne (d + 28) h3, qbI_some, decide_eq_true hz, if_neg (by decide), qb_M_add_11]
        simp only [zI_of]
        rw [c_M_isIn (d + 28) (by omega), qbI_some, show (decide ((0 : Int) ≤ z1) && decide (z1 ≤ 5)) = false by rw [← Bool.decide_and]; exact decide_eq_false hk, if_pos (by decide), qb_M_add_67, if_neg (by decide +kernel)]
        exact m_ref1 (d := d + 28) (f := -2) h (by decide)
  · refine ⟨qI (zI (-1)), refS σ 1, fun d μ h => ?_, fun d μ h => ?_, ok.ref⟩
    · rw [qe_J_add, qb_J_add_0, c_J_isNobody (d + 28) h3, qbI_some, decide_eq_false hz, if_neg (by decide), zI_of]
      exact j_ref1 (d := d + 28) (f := -1) h (by decide)
    · rw [qe_M_add, qb_M_add_0, c_M_isOne (d + 28) h3, qbI_some, decide_eq_false hz, if_pos (by decide), zI_of, qb_M_add_67, if_neg (by decide +kernel)]
      exact m_ref1 (d := d + 28) (f := -1) h (by decide)
end
