section
/-! friends, chances, keep -/
def cpl (R : Nat → Nat) (n w : Nat) : Nat := cntB (fun i => decide (R i = w)) n
theorem c_J_couplesOn (d : Nat) {w : Nat} {μ : QM} {σ : GS} (h : CI μ σ) (ok : GOK σ) (hw : w ≤ 6) : qcall qprogs (d + 2) 145 [qR (0, 0, 0), qI (zI (w : Nat))] μ = some (some (qI (zI (cpl (gR σ) (gK σ) w : Nat))), μ) := by
  have k12 := ok.2.2.2.2.2.2.1
  have r99 := ok.2.2.2.2.2.2.2
  have L : ∀ r i, i + r = gK σ → qx (d + 1) qc_J_couplesOn 4 [some (qR (0, 0, 0)), some (qI (zI (w : Nat))), some (qI (zI (cntB (fun i => decide (gR σ i = w)) i : Nat))), some (qI (zI (i : Nat)))] [] μ = some (some (qI (zI (cpl (gR σ) (gK σ) w : Nat))), μ) := by
    intro r
    induction r with
    | zero =>
      intro i hi
      rw [qb_J_couplesOn_4, h.1.2.2.2.2.1.1, if_pos (by rw [zI_le (by omega)]; omega), qb_J_couplesOn_30, show i = gK σ by omega]
      rfl
    | succ r ih =>
      intro i hi
      have i1 := ih (i + 1) (by omega)
      have b2 := r99 i (by omega)
      rw [cntB_s] at i1
      rw [qb_J_couplesOn_4, h.1.2.2.2.2.1.1, if_neg (by rw [zI_le (by omega)]; omega), c_J_numberAt d h ok (by omega), qbI_some]
      by_cases q : gR σ i = w
      · rw [if_pos (decide_eq_true q)] at i1
        rw [if_pos (by rw [q]), zI_of, zI_add, qb_J_couplesOn_24, zI_of, zI_add]
        exact i1
      · rw [if_neg (fun z => q (of_decide_eq_true z))] at i1
        rw [if_neg (by rw [zI_eq (by omega)]; omega), qb_J_couplesOn_24, zI_of, zI_add]
        exact i1
  rw [qe_J_couplesOn, qb_J_couplesOn_0]
  simp only [zI_of]
  exact L (gK σ) 0 (by omega)
def ffS (R : Nat → Nat) (n w o : Nat) : Nat := if o < cpl R n w + cpl R n ((w + 1) % 7) then cpl R n w + cpl R n ((w + 1) % 7) else o
theorem fol_last {α : Type} (F : Nat → α → α) (c k : Nat) (o : α) : fol F c (k + 1) o = F (c + k) (fol F c k o) := by
  rw [fol_add]
  rfl
def bsS (R : Nat → Nat) (n w : Nat) (o : Int × Nat) : Int × Nat := if o.2 < cpl R n w then ((w : Int), cpl R n w) else o
def amS (R : Nat → Nat) (n w a : Nat) : Nat := if cpl R n a < cpl R n w then w else a
theorem bs_am (R : Nat → Nat) (n : Nat) : ∀ k, (fol (bsS R n) 0 (k + 1) (-9, 0) = (-9, 0) ∧ fol (amS R n) 1 k 0 = 0 ∧ ∀ w, w ≤ k → cpl R n w = 0) ∨ (fol (bsS R n) 0 (k + 1) (-9, 0) = (((fol (amS R n) 1 k 0 : Nat) : Int), cpl R n (fol (amS R n) 1 k 0)) ∧ 1 ≤ cpl R n (fol (amS R n) 1 k 0) ∧ fol (amS R n) 1 k 0 ≤ k)
  | 0 => by
    show ((if 0 < cpl R n 0 then (((0 : Nat) : Int), cpl R n 0) else ((-9 : Int), 0)) = _ ∧ 0 = 0 ∧ _) ∨ ((if 0 < cpl R n 0 then (((0 : Nat) : Int), cpl R n 0) else ((-9 : Int), 0)) = (((0 : Nat) : Int), cpl R n 0) ∧ 1 ≤ cpl R n 0 ∧ 0 ≤ 0)
    by_cases q : 0 < cpl R n 0
    · right; rw [if_pos q]; exact ⟨rfl, q, Nat.le_refl 0⟩
    · left; rw [if_neg q]; exact ⟨rfl, rfl, fun w hw => by rw [show w = 0 by omega]; omega⟩
  | k + 1 => by
    rw [fol_last (bsS R n) 0 (k + 1), fol_last (amS R n) 1 k, show 0 + (k + 1) = k + 1 by omega, show 1 + k = k + 1 by omega]
    rcases bs_am R n k with ⟨h1, h2, h3⟩ | ⟨h1, h2, h3⟩
    · rw [h1, h2]
      show ((if 0 < cpl R n (k + 1) then (((k + 1 : Nat) : Int), cpl R n (k + 1)) else ((-9 : Int), 0)) = _ ∧ (if cpl R n 0 < cpl R n (k + 1) then k + 1 else 0) = 0 ∧ _) ∨ ((if 0 < cpl R n (k + 1) then (((k + 1 : Nat) : Int), cpl R n (k + 1)) else ((-9 : Int), 0)) = (((if cpl R n 0 < cpl R n (k + 1) then k + 1 else 0 : Nat) : Int), cpl R n (if cpl R n 0 < cpl R n (k + 1) then k + 1 else 0)) ∧ 1 ≤ cpl R n (if cpl R n 0 < cpl R n (k + 1) then k + 1 else 0) ∧ (if cpl R n 0 < cpl R n (k + 1) then k + 1 else 0) ≤ k + 1)
      rw [h3 0 (by omega)]
      by_cases q : 0 < cpl R n (k + 1)
      · right; rw [if_pos q, if_pos q]; exact ⟨rfl, q, Nat.le_refl _⟩
      · left; rw [if_neg q, if_neg q]
        exact ⟨rfl, rfl, fun w hw => by
          by_cases e : w = k + 1
          · rw [e]; omega
          · exact h3 w (by omega)⟩
    · rw [h1]
      generalize fol (amS R n) 1 k 0 = a at *
      right
      show (if cpl R n a < cpl R n (k + 1) then (((k + 1 : Nat) : Int), cpl R n (k + 1)) else ((a : Int), cpl R n a)) = (((if cpl R n a < cpl R n (k + 1) then k + 1 else a : Nat) : Int), cpl R n (if cpl R n a < cpl R n (k + 1) then k + 1 else a)) ∧ 1 ≤ cpl R n (if cpl R n a < cpl R n (k + 1) then k + 1 else a) ∧ (if cpl R n a < cpl R n (k + 1) then k + 1 else a) ≤ k + 1
      by_cases q : cpl R n a < cpl R n (k + 1)
      · rw [if_pos q, if_pos q]; exact ⟨rfl, by omega, Nat.le_refl _⟩
      · rw [if_neg q, if_neg q]; exact ⟨rfl, h2, by omega⟩
theorem op_friends {σ : GS} (ok : GOK σ) {z1 : Int} (h1 : iB z1) : OP 74 227 [qI (zI z1)] σ := by
  have b1 := h1.1
  have b2 := h1.2
  have k12 := ok.2.2.2.2.2.2.1
  have r99 := ok.2.2.2.2.2.2.2
  have mb := mxr_b (R := gR σ) (M := 99) (gK σ) (fun j hj => r99 j (by omega))
  have ml := mxr_le (R := gR σ) (m := 6) (gK σ)
  have cp : ∀ w, cpl (gR σ) (gK σ) w ≤ gK σ := fun w => cntB_le _
  by_cases hz : 0 ≤ z1 ∧ z1 ≤ 1
  · have e16 : ∀ d μ, CI μ σ → qcall qprogs (d + 30) 74 [qR (0, 0, 0), qI (zI z1)] μ = qx (d + 29) qc_J_friends 16 [some (qR (0, 0, 0)), some (qI (zI z1))] [] μ := fun d μ h => by
      rw [qe_J_friends, qb_J_friends_0]
      simp (disch := omega) only [zI_of, zI_0, zI_1, zI_add, zI_sub, zI_mul, zI_neg, zI_lt, zI_le, zI_eq, zI_rem, zI_oob, zI_ixN, zI_ix, zI_ite, zI10, zI01, Int.toNat_natCast, cond_false, cond_true, q01_0, q01_1, q01_0z, q01_1z, qB_if, qB_ifz, qB_ret, qB_retz, qbI_some, qbV_some, qbL_some, qbR_some, qbN_some, qbN_none, true_or, or_true, false_or, or_false, if_true, if_false, Int.reduceEq, Int.reduceLT, Int.reduceLE, Int.reduceNeg]
      by_cases e : z1 = 0
      · rw [if_pos e]
      · rw [if_neg e, if_pos (by omega)]
    have eM : ∀ d μ, MI μ σ → qcall qprogs (d + 30) 227 [qR (24, 0, 0), qI (zI z1)] μ = qx (d + 29) qc_M_friends 14 [some (qR (24, 0, 0)), some (qI (zI z1)), none, none, none] [] μ := fun d μ h => by
      rw [qe_M_friends, qb_M_friends_0]
      simp only [zI_of]
      rw [c_M_isIn (d + 28) (by omega), qbI_some, show (decide ((0 : Int) ≤ z1) && decide (z1 ≤ 1)) = true by simp [hz], if_neg (by decide)]
    by_cases hr : alle (gR σ) 6 (gK σ) = true
    · have hm := ml.mpr hr
      have r6 := alle_at (gK σ) hr
      refine ⟨qI (zI (if z1 = 0 then ((fol (ffS (gR σ) (gK σ)) 0 7 ((gK σ + 2) / 3) : Nat) : Int) else (fol (bsS (gR σ) (gK σ)) 0 7 (-9, 0)).1)), σ, fun d μ h => ⟨μ, ?_, h, Fr.rf⟩, fun d μ h => ?_, ok⟩
      · have LF : ∀ r w o, w + r = 7 → o ≤ 1000 → qx (d + 28) qc_J_fewestFriends 11 [some (qR (0, 0, 0)), some (qI (zI (o : Nat))), some (qI (zI (w : Nat)))] [] μ = some (some (qI (zI (fol (ffS (gR σ) (gK σ)) w r o : Nat))), μ) := by
          intro r
          induction r with
          | zero =>
            intro w o hw ho
            rw [qb_J_fewestFriends_11, zI_of, if_pos (by rw [zI_le (by omega)]; omega), qb_J_fewestFriends_44]
            rfl
          | succ r ih =>
            intro w o hw ho
            have c1 := cp w
            have c2 := cp ((w + 1) % 7)
            have i1 := ih (w + 1) (ffS (gR σ) (gK σ) w o) (by omega) (by unfold ffS; split <;> omega)
            rw [qb_J_fewestFriends_11]
            simp only [zI_of]
            rw [if_neg (by rw [zI_le (by omega)]; omega), c_J_couplesOn (d + 26) h ok (by omega), qbI_some, if_neg (by decide +kernel), zI_add, zI_rem (by omega), show (((w : Nat) : Int) + 1) % 7 = (((w + 1) % 7 : Nat) : Int) by omega, c_J_couplesOn (d + 26) h ok (by omega), qbI_some, zI_addN, fol_s]
            have e : (if zI (o : Nat) < zI ((cpl (gR σ) (gK σ) w + cpl (gR σ) (gK σ) ((w + 1) % 7) : Nat) : Int) then zI ((cpl (gR σ) (gK σ) w + cpl (gR σ) (gK σ) ((w + 1) % 7) : Nat) : Int) else zI (o : Nat)) = zI (ffS (gR σ) (gK σ) w o : Nat) := by
              unfold ffS
              by_cases q : o < cpl (gR σ) (gK σ) w + cpl (gR σ) (gK σ) ((w + 1) % 7)
              · rw [if_pos (by rw [zI_lt (by omega)]; omega), if_pos q]
              · rw [if_neg (by rw [zI_lt (by omega)]; omega), if_neg q]
            rw [e]
            exact i1
        have LB : ∀ r w (o : Int × Nat), w + r = 7 → o.2 ≤ 12 → qx (d + 28) qc_J_busiestWeekday 7 [some (qR (0, 0, 0)), some (qI (zI o.1)), some (qI (zI (o.2 : Nat))), some (qI (zI (w : Nat))), none] [] μ = some (some (qI (zI (fol (bsS (gR σ) (gK σ)) w r o).1)), μ) := by
          intro r
          induction r with
          | zero =>
            intro w o hw ho
            rw [qb_J_busiestWeekday_7, zI_of, if_pos (by rw [zI_le (by omega)]; omega), qb_J_busiestWeekday_37]
            rfl
          | succ r ih =>
            intro w o hw ho
            have c1 := cp w
            have i1 := ih (w + 1) (bsS (gR σ) (gK σ) w o) (by omega) (by unfold bsS; split; exact Nat.le_trans (cp w) k12; exact ho)
            have es : bsS (gR σ) (gK σ) w o = if o.2 < cpl (gR σ) (gK σ) w then ((w : Int), cpl (gR σ) (gK σ) w) else o := rfl
            rw [qb_J_busiestWeekday_7, zI_of, if_neg (by rw [zI_le (by omega)]; omega), c_J_couplesOn (d + 26) h ok (by omega), qbI_some, fol_s]
            rw [es] at i1 ⊢
            by_cases q : o.2 < cpl (gR σ) (gK σ) w
            · rw [if_pos q] at i1 ⊢
              rw [if_neg (by rw [zI_le (by omega)]; omega), qb_J_busiestWeekday_31, zI_of, zI_add]
              exact i1
            · rw [if_neg q] at i1 ⊢
              rw [if_pos (by rw [zI_le (by omega)]; omega), qb_J_busiestWeekday_31, zI_of, zI_add]
              exact i1
        rw [e16 d μ h, qb_J_friends_16, c_J_mostInRow (d + 27) h ok, qbI_some, zI_of, if_pos (by rw [zI_le (by omega)]; exact hm), qb_J_friends_32]
        by_cases e : z1 = 0
        · have l0 := LF 7 0 ((gK σ + 2) / 3) (by decide) (by omega)
          rw [if_pos (show zI z1 = 0 by rw [e]; exact zI0), if_pos e, qe_J_fewestFriends, qb_J_fewestFriends_0, h.1.2.2.2.2.1.1]
          simp only [zI_of]
          rw [if_neg (by decide +kernel), zI_add, zI_tdiv (by omega), show (((gK σ : Nat) : Int) + 2) / 3 = (((gK σ + 2) / 3 : Nat) : Int) by omega, show zI (0 : Int) = zI ((0 : Nat) : Int) from rfl, l0, qbI_some, qb_J_friends_47]
        · have l0 := LB 7 0 (-9, 0) (by decide) (by decide)
          rw [if_neg (show ¬ zI z1 = 0 by rw [zI_0, zI_eq (by omega)]; exact e), if_neg e, qb_J_friends_43, qe_J_busiestWeekday, qb_J_busiestWeekday_0]
          simp only [zI_of]
          rw [show qx (d + 28) qc_J_busiestWeekday 7 [some (qR (0, 0, 0)), some (qI (zI (-9))), some (qI (zI 0)), some (qI (zI 0)), none] [] μ = _ from l0, qbI_some, qb_J_friends_47]
      · have wr : ∀ (i : Nat) (μ : QM) (v : Int32), MI μ σ → MI (qsi μ (47, 0, 0) i v) σ ∧ Fr isMd μ (qsi μ (47, 0, 0) i v) := fun i μ v h => by
          have fq : FrR μ (qsi μ (47, 0, 0) i v) := ⟨Fr.si (Or.inr (Or.inr (Or.inr (by decide)))), fun k hk => by rw [qsi_ne (by simp)], fun x _ => by rw [qsi_ne (by simp)]⟩
          exact h.rr ok fq (h.1.row (by omega))
        have L1 : ∀ r c (μ1 : QM), c + r = 7 → MI μ1 σ → Fr isMd μ μ1 → (∀ w, w < c → μ1.1 (47, 0, 0) w = zI 0) → ∃ μ2, qx (d + 29) qc_M_friends 42 [some (qR (24, 0, 0)), some (qI (zI z1)), none, some (qI (zI (c : Nat))), none] [] μ1 = qx (d + 29) qc_M_friends 61 [some (qR (24, 0, 0)), some (qI (zI z1)), none, none, none] [] μ2 ∧ MI μ2 σ ∧ Fr isMd μ μ2 ∧ ∀ w, w < 7 → μ2.1 (47, 0, 0) w = zI 0 := by
          intro r
          induction r with
          | zero =>
            intro c μ1 hc hM hF hv
            rw [qb_M_friends_42, zI_of, if_pos (by rw [zI_le (by omega)]; omega)]
            exact ⟨μ1, rfl, hM, hF, fun w hw => hv w (by omega)⟩
          | succ r ih =>
            intro c μ1 hc hM hF hv
            have w1 := wr c μ1 (zI 0) hM
            rw [qb_M_friends_42]
            simp only [zI_of, zI_add]
            rw [if_neg (by rw [zI_le (by omega)]; omega), zI_oob (n := 7) (by omega), cond_false, show qix (zI (c : Nat)) = c from zI_ixN (by omega)]
            exact ih (c + 1) _ (by omega) w1.1 (hF.tr w1.2) fun w hw => by
              rw [qsi_get]
              by_cases e : w = c
              · subst e; rw [if_pos ⟨rfl, rfl⟩]
              · rw [if_neg (fun z => e z.2)]; exact hv w (by omega)
        have L2 : ∀ r i (μ1 : QM), i + r = gK σ → MI μ1 σ → Fr isMd μ μ1 → (∀ w, w < 7 → μ1.1 (47, 0, 0) w = zI (cpl (gR σ) i w : Nat)) → ∃ μ2, qx (d + 29) qc_M_friends 63 [some (qR (24, 0, 0)), some (qI (zI z1)), none, some (qI (zI (i : Nat))), none] [] μ1 = qx (d + 29) qc_M_friends 92 [some (qR (24, 0, 0)), some (qI (zI z1)), none, none, none] [] μ2 ∧ MI μ2 σ ∧ Fr isMd μ μ2 ∧ ∀ w, w < 7 → μ2.1 (47, 0, 0) w = zI (cpl (gR σ) (gK σ) w : Nat) := by
          intro r
          induction r with
          | zero =>
            intro i μ1 hi hM hF hv
            rw [qb_M_friends_63, hM.2.2.2.2.1.1, if_pos (by rw [zI_le (by omega)]; omega)]
            rw [show i = gK σ by omega] at hv
            exact ⟨μ1, rfl, hM, hF, hv⟩
          | succ r ih =>
            intro i μ1 hi hM hF hv
            have ri := r6 i (by omega)
            have w1 := wr (gR σ i) μ1 (zI ((cpl (gR σ) i (gR σ i) + 1 : Nat) : Int)) hM
            rw [qb_M_friends_63, hM.2.2.2.2.1.1, if_neg (by rw [zI_le (by omega)]; omega), zI_oob (n := 12) (by omega), cond_false, show qix (zI (i : Nat)) = i from zI_ixN (by omega), hM.2.2.2.2.1.2 i (by omega), zI_oob (n := 7) (by omega), cond_false, cond_false, show qix (zI (gR σ i : Nat)) = gR σ i from zI_ixN (by omega), hv (gR σ i) (by omega), zI_of, zI_add, zI_add]
            refine ih (i + 1) _ (by omega) w1.1 (hF.tr w1.2) fun w hw => ?_
            rw [qsi_get]
            show _ = zI ((cntB (fun j => decide (gR σ j = w)) i + (if decide (gR σ i = w) = true then 1 else 0) : Nat) : Int)
            by_cases e : w = gR σ i
            · subst e; rw [if_pos ⟨rfl, rfl⟩, if_pos (decide_eq_true rfl)]; rfl
            · rw [if_neg (fun z => e z.2), if_neg (fun z => e (of_decide_eq_true z).symm)]; exact hv w hw
        obtain ⟨μ1, x1, x2, x3, x4⟩ := L1 7 0 μ (by decide) h Fr.rf (fun w hw => absurd hw (by omega))
        obtain ⟨μ2, y1, y2, y3, y4⟩ := L2 (gK σ) 0 μ1 (by omega) x2 x3 x4
        refine ⟨μ2, ?_, y2, y3⟩
        have LF : ∀ r w o, w + r = 7 → o ≤ 1000 → qx (d + 28) qc_M_fewestFriends 11 [some (qR (24, 0, 0)), some (qI (zI (o : Nat))), some (qI (zI (w : Nat))), none] [] μ2 = some (some (qI (zI (fol (ffS (gR σ) (gK σ)) w r o : Nat))), μ2) := by
          intro r
          induction r with
          | zero =>
            intro w o hw ho
            rw [qb_M_fewestFriends_11, zI_of, if_pos (by rw [zI_le (by omega)]; omega), qb_M_fewestFriends_53]
            rfl
          | succ r ih =>
            intro w o hw ho
            have c1 := cp w
            have c2 := cp ((w + 1) % 7)
            have i1 := ih (w + 1) (ffS (gR σ) (gK σ) w o) (by omega) (by unfold ffS; split <;> omega)
            rw [qb_M_fewestFriends_11]
            simp only [zI_of]
            rw [if_neg (by rw [zI_le (by omega)]; omega), zI_oob (n := 7) (by omega), cond_false, if_neg (by decide +kernel), zI_add, zI_rem (by omega), show (((w : Nat) : Int) + 1) % 7 = (((w + 1) % 7 : Nat) : Int) by omega, zI_oob (n := 7) (by omega), cond_false, show qix (zI (w : Nat)) = w from zI_ixN (by omega), show qix (zI (((w + 1) % 7 : Nat) : Int)) = (w + 1) % 7 from zI_ixN (by omega), y4 w (by omega), y4 _ (by omega), zI_addN, fol_s]
            unfold ffS at i1 ⊢
            by_cases q : o < cpl (gR σ) (gK σ) w + cpl (gR σ) (gK σ) ((w + 1) % 7)
            · rw [if_pos q] at i1 ⊢
              rw [if_neg (by rw [zI_le (by omega)]; omega), qb_M_fewestFriends_46, zI_of, zI_add]
              exact i1
            · rw [if_neg q] at i1 ⊢
              rw [if_pos (by rw [zI_le (by omega)]; omega), qb_M_fewestFriends_45, qb_M_fewestFriends_46, zI_of, zI_add]
              exact i1
        have LA : ∀ r w a, w + r = 7 → a < 7 → qx (d + 29) qc_M_friends 106 [some (qR (24, 0, 0)), none, none, some (qI (zI (a : Nat))), some (qI (zI (w : Nat)))] [] μ2 = qx (d + 29) qc_M_friends 142 [some (qR (24, 0, 0)), none, none, some (qI (zI (fol (amS (gR σ) (gK σ)) w r a : Nat))), none] [] μ2 := by
          intro r
          induction r with
          | zero =>
            intro w a hw ha
            rw [qb_M_friends_106, zI_of, if_pos (by rw [zI_le (by omega)]; omega)]
            rfl
          | succ r ih =>
            intro w a hw ha
            have c1 := cp w
            have c2 := cp a
            have i1 := ih (w + 1) (amS (gR σ) (gK σ) w a) (by omega) (by unfold amS; split <;> omega)
            rw [qb_M_friends_106, zI_of, if_neg (by rw [zI_le (by omega)]; omega), zI_oob (n := 7) (by omega), cond_false, zI_oob (n := 7) (by omega), cond_false, show qix (zI (w : Nat)) = w from zI_ixN (by omega), show qix (zI (a : Nat)) = a from zI_ixN (by omega), y4 w (by omega), y4 a ha, fol_s]
            unfold amS at i1 ⊢
            by_cases q : cpl (gR σ) (gK σ) a < cpl (gR σ) (gK σ) w
            · rw [if_pos q] at i1 ⊢
              rw [if_neg (by rw [zI_le (by omega)]; omega), qb_M_friends_135, zI_of, zI_add]
              exact i1
            · rw [if_neg q] at i1 ⊢
              rw [if_pos (by rw [zI_le (by omega)]; omega), qb_M_friends_134, qb_M_friends_135, zI_of, zI_add]
              exact i1
        have au := c_M_areUpTo (d + 28) (m := 6) h ok (by decide)
        rw [eM d μ h, qb_M_friends_14]
        simp only [zI_of]
        rw [show qcall qprogs (d + 29) 223 [qR (24, 0, 0), qI (zI 6)] μ = _ from au, qbI_some, hr, if_neg (by decide), qb_M_friends_28, zI_of, qb_M_friends_29, if_pos zI0, qb_M_friends_40, zI_of]
        refine x1.trans ?_
        rw [qb_M_friends_61, zI_of]
        refine y1.trans ?_
        rw [qb_M_friends_92]
        by_cases e : z1 = 0
        · have l0 := LF 7 0 ((gK σ + 2) / 3) (by decide) (by omega)
          rw [if_pos (show zI z1 = 0 by rw [e]; exact zI0), if_pos e, qe_M_fewestFriends, qb_M_fewestFriends_0, y2.2.2.2.2.1.1]
          simp only [zI_of]
          rw [if_neg (by decide +kernel), zI_add, zI_tdiv (by omega), show (((gK σ : Nat) : Int) + 2) / 3 = (((gK σ + 2) / 3 : Nat) : Int) by omega, show zI (0 : Int) = zI ((0 : Nat) : Int) from rfl, l0, qbI_some]
        · have l0 := LA 6 1 0 (by decide) (by decide)
          rw [if_neg (show ¬ zI z1 = 0 by rw [zI_0, zI_eq (by omega)]; exact e), if_neg e, qb_M_friends_101]
          simp only [zI_of]
          rw [show qx (d + 29) qc_M_friends 106 [some (qR (24, 0, 0)), none, none, some (qI (zI 0)), some (qI (zI 1))] [] μ2 = _ from l0, qb_M_friends_142, y2.2.2.2.2.1.1]
          rcases bs_am (gR σ) (gK σ) 6 with ⟨g1, g2, g3⟩ | ⟨g1, g2, g3⟩
          · rw [g1, g2]
            by_cases q : gK σ = 0
            · rw [q, if_pos (show zI ((0 : Nat) : Int) = 0 from zI0), zI_of, qb_M_friends_155]
            · have r0 := r6 0 (by omega)
              have c0 := g3 (gR σ 0) r0
              have : cntB (fun i => decide (gR σ i = gR σ 0)) 1 ≤ cpl (gR σ) (gK σ) (gR σ 0) := cntB_mono (by omega)
              rw [cntB_s, if_pos (decide_eq_true rfl)] at this
              omega
          · have c0 := cp (fol (amS (gR σ) (gK σ)) 1 6 0)
            rw [g1, if_neg (by rw [zI_0, zI_eq (by omega)]; omega), qb_M_friends_154, qb_M_friends_155]
    · have hm : ¬ mxr (gR σ) (gK σ) ≤ 6 := fun z => hr (ml.mp z)
      refine ⟨qI (zI (-3)), refS σ 3, fun d μ h => ?_, fun d μ h => ?_, ok.ref⟩
      · rw [e16 d μ h, qb_J_friends_16, c_J_mostInRow (d + 27) h ok, qbI_some]
        simp only [zI_of]
        rw [if_neg (by rw [zI_le (by omega)]; exact hm)]
        exact j_ref1 (d := d + 28) (f := -3) h (by decide)
      · have au := c_M_areUpTo (d + 28) (m := 6) h ok (by decide)
        have hr2 : alle (gR σ) 6 (gK σ) = false := by simpa using hr
        rw [eM d μ h, qb_M_friends_14]
        simp only [zI_of]
        rw [show qcall qprogs (d + 29) 223 [qR (24, 0, 0), qI (zI 6)] μ = _ from au, qbI_some, hr2, if_pos (by decide), qb_M_friends_29, if_neg (by decide +kernel)]
        exact m_ref1 (d := d + 28) (f := -3) h (by decide)
  · refine ⟨qI (zI (-2)), refS σ 2, fun d μ h => ?_, fun d μ h => ?_, ok.ref⟩
    · rw [qe_J_friends, qb_J_friends_0]
      simp only [zI_of]
      rw [if_neg (by rw [zI_0, zI_eq (by omega)]; omega), if_neg (by rw [zI_eq (by omega)]; omega)]
      exact j_ref1 (d := d + 28) (f := -2) h (by decide)
    · rw [qe_M_friends, qb_M_friends_0]
      simp only [zI_of]
      rw [c_M_isIn (d + 28) (by omega), qbI_some, show (decide ((0 : Int) ≤ z1) && decide (z1 ≤ 1)) = false by rw [← Bool.decide_and]; exact decide_eq_false hz, if_pos (by decide), qb_M_friends_29, if_neg (by decide +kernel)]
      exact m_ref1 (d := d + 28) (f := -2) h (by decide)
/-! chances -/
theorem j_refL {d : Nat} {f : Int} {μ : QM} {σ : GS} (h : CI μ σ) (hf : -6 ≤ f ∧ f ≤ -1) : ∃ μ', qbL (qcall qprogs (d + 2) 106 [qR (0, 0, 0), qI (zI f)] μ) (fun x2 μ1 => some (some (qL x2), μ1)) = some (some (qL (lL f)), μ') ∧ CI μ' (refS σ (-f).toNat) ∧ Fr isCl μ μ' := by
  obtain ⟨μ', r1, r2, r3⟩ := c_J_refuseLong d h hf
  exact ⟨μ', by rw [r1]; rfl, r2, r3⟩
theorem m_refL {d : Nat} {f : Int} {μ : QM} {σ : GS} (h : MI μ σ) (hf : -6 ≤ f ∧ f ≤ -1) : ∃ μ', qbL (qcall qprogs (d + 1) 154 [qR (24, 0, 0), qI (zI f)] μ) (fun x2 μ1 => some (some (qL x2), μ1)) = some (some (qL (lL f)), μ') ∧ MI μ' (refS σ (-f).toNat) ∧ Fr isMd μ μ' := by
  obtain ⟨μ', r1, r2, r3⟩ := c_M_lowest d h hf
  exact ⟨μ', by rw [r1]; rfl, r2, r3⟩
theorem c_J_power (d : Nat) {b n : Nat} {μ : QM} (hb : b < 2147483648) (hn : n ≤ 1000) : qcall qprogs (d + 1) 150 [qI (zI (b : Nat)), qI (zI (n : Nat))] μ = some (some (qL (lN (b ^ n))), μ) := by
  have L : ∀ r i, i + r = n → qx d qc_J_power 5 [some (qI (zI (b : Nat))), some (qI (zI (n : Nat))), some (qL (lN (b ^ i))), none, some (qI (zI (i : Nat)))] [] μ = some (some (qL (lN (b ^ n))), μ) := by
    intro r
    induction r with
    | zero =>
      intro i hi
      rw [qb_J_power_5, if_pos (by rw [zI_le (by omega)]; omega), qb_J_power_22, show i = n by omega]
    | succ r ih =>
      intro i hi
      rw [qb_J_power_5, if_neg (by rw [zI_le (by omega)]; omega), zI_nI b, nI_l (by omega), lN_mul, ← Nat.pow_succ, ← zI_nI b, zI_of, zI_add]
      exact ih (i + 1) (by omega)
  rw [qe_J_power, qb_J_power_0, zI_of]
  exact L n 0 (by omega)
theorem c_M_power (d : Nat) {b n : Nat} {μ : QM} (hn : n ≤ 1000) : qcall qprogs (d + 1) 229 [qL (lN b), qI (zI (n : Nat))] μ = some (some (qL (lN (b ^ n))), μ) := by
  have L : ∀ r i, i + r = n → qx d qc_M_power 5 [some (qL (lN b)), none, some (qI (zI (n : Nat))), some (qL (lN (b ^ i))), none, some (qI (zI (i : Nat)))] [] μ = some (some (qL (lN (b ^ n))), μ) := by
    intro r
    induction r with
    | zero =>
      intro i hi
      rw [qb_M_power_5, if_pos (by rw [zI_le (by omega)]; omega), qb_M_power_21, show i = n by omega]
    | succ r ih =>
      intro i hi
      rw [qb_M_power_5, if_neg (by rw [zI_le (by omega)]; omega), lN_mul, ← Nat.pow_succ, zI_of, zI_add]
      exact ih (i + 1) (by omega)
  rw [qe_M_power, qb_M_power_0, zI_of]
  exact L n 0 (by omega)
theorem lN_z {b : Nat} (hb : b < 2 ^ 62) (h : lN b = 0) : b = 0 := by
  have h1 : (BitVec.ofNat 64 b).toNat = (BitVec.ofNat 64 0).toNat := congrArg (fun x : Int64 => x.toBitVec.toNat) h
  rw [BitVec.toNat_ofNat, BitVec.toNat_ofNat, Nat.mod_eq_of_lt (by omega)] at h1
  exact h1
theorem c_M_divisor (d : Nat) {a b : Nat} {μ : QM} (ha : a < 2 ^ 62) (hb : b < 2 ^ 62) : qcall qprogs (d + 1) 228 [qL (lN a), qL (lN b)] μ = some (some (qL (lN (Nat.gcd a b))), μ) := by
  have L : ∀ m a b, b ≤ m → a < 2 ^ 62 → b < 2 ^ 62 → qx d qc_M_divisor 6 [none, none, none, none, some (qL (lN a)), none, some (qL (lN b)), none, none, none] [] μ = some (some (qL (lN (Nat.gcd a b))), μ) := by
    intro m
    induction m with
    | zero =>
      intro a b hbm ha hb
      rw [show b = 0 by omega, qb_M_divisor_6, if_pos (by decide +kernel), qb_M_divisor_31, Nat.gcd_zero_right]
    | succ m ih =>
      intro a b hbm ha hb
      by_cases q : b = 0
      · rw [q, qb_M_divisor_6, if_pos (by decide +kernel), qb_M_divisor_31, Nat.gcd_zero_right]
      · have ml := Nat.mod_lt a (show 0 < b by omega)
        have ne : ¬ lN b = 0 := fun z => q (lN_z hb z)
        rw [qb_M_divisor_6, if_neg (by rw [lg_cmp_eq]; exact ne), if_neg ne, pk_lRem (by omega) (by omega) (by omega), ih b (a % b) (by omega) hb (by omega), Nat.gcd_comm a b, Nat.gcd_rec b a, Nat.gcd_comm b]
  rw [qe_M_divisor, qb_M_divisor_0]
  exact L b a b (Nat.le_refl b) ha hb
theorem chs1 : ∀ t, t < 21 → ∀ n, n < 13 → 2 ≤ t → Nat.gcd (t ^ n - (t - 1) ^ n) (t ^ n) = 1 ∧ t ^ n < 2 ^ 62 := by decide +kernel
theorem op_chance {σ : GS} (ok : GOK σ) {z1 z2 z3 : Int} (h1 : iB z1) (h2 : iB z2) (h3 : iB z3) : OP 86 230 [qI (zI z1), qI (zI z2), qI (zI z3)] σ := by
  have b1 := h1.1
  have b2 := h1.2
  have b3 := h2.1
  have b4 := h2.2
  have b5 := h3.1
  have b6 := h3.2
  by_cases e1 : z1 < 2 ∨ z2 < 0
  · refine ⟨qL (lL (-4)), refS σ 4, fun d μ h => ?_, fun d μ h => ?_, ok.ref⟩
    · have q : qcall qprogs (d + 30) 86 [qR (0, 0, 0), qI (zI z1), qI (zI z2), qI (zI z3)] μ = qx (d + 29) qc_J_chance 9 [some (qR (0, 0, 0)), none, none, none, none, none] [] μ := by
        rw [qe_J_chance, qb_J_chance_0]
        simp only [zI_of]
        by_cases q : z1 < 2
        · rw [if_pos (by rw [zI_lt (by omega)]; exact q)]
        · rw [if_neg (by rw [zI_lt (by omega)]; exact q), if_neg (by rw [zI_0, zI_le (by omega)]; omega)]
      rw [q, qb_J_chance_9, zI_of]
      exact j_refL (d := d + 27) (f := -4) h (by decide)
    · have q : qcall qprogs (d + 30) 230 [qR (24, 0, 0), qI (zI z1), qI (zI z2), qI (zI z3)] μ = qx (d + 29) qc_M_chance 9 [some (qR (24, 0, 0)), some (qI (zI z1)), some (qI (zI z2)), some (qI (zI z3)), none, none, none, none, none] [] μ := by
        rw [qe_M_chance, qb_M_chance_0]
        simp only [zI_of]
        by_cases q : z1 < 2
        · rw [if_pos (by rw [zI_lt (by omega)]; exact q)]
        · rw [if_neg (by rw [zI_lt (by omega)]; exact q), if_neg (by rw [zI_0, zI_le (by omega)]; omega)]
      rw [q, qb_M_chance_9, zI_of, qb_M_chance_46, if_neg (by decide +kernel)]
      exact m_refL (d := d + 28) (f := -4) h (by decide)
  · have eJ : ∀ d μ, CI μ σ → qcall qprogs (d + 30) 86 [qR (0, 0, 0), qI (zI z1), qI (zI z2), qI (zI z3)] μ = qx (d + 29) qc_J_chance 16 [some (qR (0, 0, 0)), some (qI (zI z1)), some (qI (zI z2)), some (qI (zI z3)), none, none] [] μ := fun d μ h => by
      rw [qe_J_chance, qb_J_chance_0]
      simp only [zI_of]
      rw [if_neg (by rw [zI_lt (by omega)]; omega), if_pos (by rw [zI_0, zI_le (by omega)]; omega)]
    have eM : ∀ d μ, MI μ σ → qcall qprogs (d + 30) 230 [qR (24, 0, 0), qI (zI z1), qI (zI z2), qI (zI z3)] μ = qx (d + 29) qc_M_chance 14 [some (qR (24, 0, 0)), some (qI (zI z1)), some (qI (zI z2)), some (qI (zI z3)), none, none, none, none, none] [] μ := fun d μ h => by
      rw [qe_M_chance, qb_M_chance_0]
      simp only [zI_of]
      rw [if_neg (by rw [zI_lt (by omega)]; omega), if_pos (by rw [zI_0, zI_le (by omega)]; omega)]
    by_cases e2 : 20 < z1 ∨ 12 < z2
    · refine ⟨qL (lL (-6)), refS σ 6, fun d μ h => ?_, fun d μ h => ?_, ok.ref⟩
      · have q : qcall qprogs (d + 30) 86 [qR (0, 0, 0), qI (zI z1), qI (zI z2), qI (zI z3)] μ = qx (d + 29) qc_J_chance 28 [some (qR (0, 0, 0)), none, none, none, none, none] [] μ := by
          rw [eJ d μ h, qb_J_chance_16]
          simp only [zI_of]
          by_cases q : 20 < z1
          · rw [if_pos (by rw [zI_lt (by omega)]; exact q)]
          · rw [if_neg (by rw [zI_lt (by omega)]; exact q), if_neg (by rw [zI_le (by omega)]; omega)]
        rw [q, qb_J_chance_28, zI_of]
        exact j_refL (d := d + 27) (f := -6) h (by decide)
      · have q : qcall qprogs (d + 30) 230 [qR (24, 0, 0), qI (zI z1), qI (zI z2), qI (zI z3)] μ = qx (d + 29) qc_M_chance 26 [some (qR (24, 0, 0)), some (qI (zI z1)), some (qI (zI z2)), some (qI (zI z3)), none, none, none, none, none] [] μ := by
          rw [eM d μ h, qb_M_chance_14]
          simp only [zI_of]
          by_cases q : 20 < z1
          · rw [if_pos (by rw [zI_lt (by omega)]; exact q)]
          · rw [if_neg (by rw [zI_lt (by omega)]; exact q), if_neg (by rw [zI_le (by omega)]; omega)]
        rw [q, qb_M_chance_26, zI_of, qb_M_chance_46, if_neg (by decide +kernel)]
        exact m_refL (d := d + 28) (f := -6) h (by decide)
    · have fJ : ∀ d μ, CI μ σ → qcall qprogs (d + 30) 86 [qR (0, 0, 0), qI (zI z1), qI (zI z2), qI (zI z3)] μ = qx (d + 29) qc_J_chance 35 [some (qR (0, 0, 0)), some (qI (zI z1)), some (qI (zI z2)), some (qI (zI z3)), none, none] [] μ := fun d μ h => by
        rw [eJ d μ h, qb_J_chance_16]
        simp only [zI_of]
        rw [if_neg (by rw [zI_lt (by omega)]; omega), if_pos (by rw [zI_le (by omega)]; omega)]
      have fM : ∀ d μ, MI μ σ → qcall qprogs (d + 30) 230 [qR (24, 0, 0), qI (zI z1), qI (zI z2), qI (zI z3)] μ = qx (d + 29) qc_M_chance 31 [some (qR (24, 0, 0)), some (qI (zI z1)), some (qI (zI z2)), some (qI (zI z3)), none, none, none, none, none] [] μ := fun d μ h => by
        rw [eM d μ h, qb_M_chance_14]
        simp only [zI_of]
        rw [if_neg (by rw [zI_lt (by omega)]; omega), if_pos (by rw [zI_le (by omega)]; omega)]
      by_cases e3 : 0 ≤ z3 ∧ z3 ≤ 1
      · obtain ⟨t, rfl, ht⟩ : ∃ k : Nat, z1 = k ∧ k ≤ 20 := ⟨z1.toNat, by omega, by omega⟩
        obtain ⟨n, rfl, hn⟩ : ∃ k : Nat, z2 = k ∧ k ≤ 12 := ⟨z2.toNat, by omega, by omega⟩
        have t2 : 2 ≤ t := by omega
        obtain ⟨g1, g2⟩ := chs1 t (by omega) n (by omega) t2
        have le := Nat.pow_le_pow_left (show t - 1 ≤ t by omega) n
        refine ⟨qL (if z3 = 0 then lN (t ^ n - (t - 1) ^ n) else lN (t ^ n)), σ, fun d μ h => ⟨μ, ?_, h, Fr.rf⟩, fun d μ h => ⟨μ, ?_, h, Fr.rf⟩, ok⟩
        · have g51 : qcall qprogs (d + 30) 86 [qR (0, 0, 0), qI (zI (t : Nat)), qI (zI (n : Nat)), qI (zI z3)] μ = qx (d + 29) qc_J_chance 51 [none, some (qI (zI (t : Nat))), some (qI (zI (n : Nat))), some (qI (zI z3)), none, none] [] μ := by
            rw [fJ d μ h, qb_J_chance_35]
            simp only [zI_of]
            by_cases e : z3 = 0
            · rw [if_pos (by rw [e]; exact zI0)]
            · rw [if_neg (by rw [zI_0, zI_eq (by omega)]; exact e), if_pos (by rw [zI_eq (by omega)]; omega)]
          rw [g51, qb_J_chance_51, c_J_power (d + 28) (by omega) (by omega), qbL_some, zI_of]
          by_cases e : z3 = 0
          · rw [if_neg (by rw [zI_eq (by omega)]; omega), if_pos e, qb_J_chance_68, zI_of, show zI (1 : Int) = zI ((1 : Nat) : Int) from rfl, zI_subN (by omega), c_J_power (d + 28) (by omega) (by omega), qbL_some, lN_sub le, qb_J_chance_78]
          · rw [if_pos (by rw [zI_eq (by omega)]; omega), if_neg e, qb_J_chance_78]
        · rw [fM d μ h, qb_M_chance_31]
          simp only [zI_of]
          rw [c_M_isIn (d + 28) (by omega), qbI_some, show (decide ((0 : Int) ≤ z3) && decide (z3 ≤ 1)) = true by simp [e3], if_neg (by decide), qb_M_chance_45, zI_of, qb_M_chance_46, if_pos zI0, qb_M_chance_60, zI_of, show zI (1 : Int) = zI ((1 : Nat) : Int) from rfl, zI_subN (by omega), zI_nI t, nI_l (by omega), c_M_power (d + 28) (by omega), qbL_some, zI_nI (t - 1), nI_l (by omega), c_M_power (d + 28) (by omega), qbL_some, lN_sub le]
          have dv : qcall qprogs (d + 29) 228 [qL (lN (t ^ n - (t - 1) ^ n)), qL (lN (t ^ n))] μ = some (some (qL (lN 1)), μ) := by
            rw [c_M_divisor (d + 28) (by omega) g2, g1]
          by_cases e : z3 = 0
          · rw [if_pos (by rw [e]; exact zI0), if_pos e, qb_M_chance_92, dv, qbL_some, if_neg (by decide +kernel), pk_lDiv (by omega) (by decide) (by decide), Nat.div_one]
          · rw [if_neg (by rw [zI_0, zI_eq (by omega)]; exact e), if_neg e, qb_M_chance_90, qb_M_chance_92, dv, qbL_some, if_neg (by decide +kernel), pk_lDiv (by omega) (by decide) (by decide), Nat.div_one]
      · refine ⟨qL (lL (-2)), refS σ 2, fun d μ h => ?_, fun d μ h => ?_, ok.ref⟩
        · rw [fJ d μ h, qb_J_chance_35]
          simp only [zI_of]
          rw [if_neg (by rw [zI_0, zI_eq (by omega)]; omega), if_neg (by rw [zI_eq (by omega)]; omega)]
          exact j_refL (d := d + 27) (f := -2) h (by decide)
        · rw [fM d μ h, qb_M_chance_31]
          simp only [zI_of]
          rw [c_M_isIn (d + 28) (by omega), qbI_some, show (decide ((0 : Int) ≤ z3) && decide (z3 ≤ 1)) = false by rw [← Bool.decide_and]; exact decide_eq_false e3, if_pos (by decide), qb_M_chance_46, if_neg (by decide +kernel)]
          exact m_refL (d := d + 28) (f := -2) h (by decide)
def kpB (t : Nat) (n : Nat) : Bool := !decide (0 < lg_cmp (Int64.ofInt 2 * lN ((t - 1) ^ n)) (lN (t ^ n)))
theorem op_keep {σ : GS} (ok : GOK σ) {z1 : Int} (h1 : iB z1) : OP 87 231 [qI (zI z1)] σ := by
  have b1 := h1.1
  have b2 := h1.2
  have eM : ∀ d μ, MI μ σ → qcall qprogs (d + 30) 231 [qR (24, 0, 0), qI (zI z1)] μ = if zI (if z1 < 2 then (-4 : Int) else if 20 < z1 then -6 else 0) = 0 then qx (d + 29) qc_M_keep 18 [none, some (qI (zI z1)), none, none] [] μ else qbI (qcall qprogs (d + 29) 152 [qR (24, 0, 0), qI (zI (if z1 < 2 then (-4 : Int) else if 20 < z1 then -6 else 0))] μ) (fun x4 μ3 => some (some (qI x4), μ3)) := fun d μ h => by
    rw [qe_M_keep, qb_M_keep_0]
    simp only [zI_of]
    rw [c_M_bound (d + 28) (by omega), qbI_some]
  by_cases e1 : z1 < 2
  · refine ⟨qI (zI (-4)), refS σ 4, fun d μ h => ?_, fun d μ h => ?_, ok.ref⟩
    · rw [qe_J_keep, qb_J_keep_0]
      simp only [zI_of]
      rw [if_neg (by rw [zI_le (by omega)]; omega)]
      exact j_ref1 (d := d + 28) (f := -4) h (by decide)
    · rw [eM d μ h, if_pos e1, if_neg (by decide +kernel)]
      exact m_ref1 (d := d + 28) (f := -4) h (by decide)
  · by_cases e2 : 20 < z1
    · refine ⟨qI (zI (-6)), refS σ 6, fun d μ h => ?_, fun d μ h => ?_, ok.ref⟩
      · rw [qe_J_keep, qb_J_keep_0]
        simp only [zI_of]
        rw [if_pos (by rw [zI_le (by omega)]; omega), qb_J_keep_12]
        simp only [zI_of]
        rw [if_neg (by rw [zI_le (by omega)]; omega)]
        exact j_ref1 (d := d + 28) (f := -6) h (by decide)
      · rw [eM d μ h, if_neg e1, if_pos e2, if_neg (by decide +kernel)]
        exact m_ref1 (d := d + 28) (f := -6) h (by decide)
    · obtain ⟨t, rfl, ht⟩ : ∃ k : Nat, z1 = k ∧ k ≤ 20 := ⟨z1.toNat, by omega, by omega⟩
      refine ⟨qI (zI (onM (ffr (kpB t) 13 0))), σ, fun d μ h => ⟨μ, ?_, h, Fr.rf⟩, fun d μ h => ⟨μ, ?_, h, Fr.rf⟩, ok⟩
      · have L : ∀ k c, c + k = 13 → qx (d + 29) qc_J_keep 27 [none, some (qI (zI (t : Nat))), some (qI (zI (c : Nat)))] [] μ = some (some (qI (zI (onM (ffr (kpB t) k c)))), μ) := by
          intro k
          induction k with
          | zero =>
            intro c hc
            rw [qb_J_keep_27]
            simp only [zI_of]
            rw [if_pos (by rw [zI_lt (by omega)]; omega), qb_J_keep_61, zI_of]
            rfl
          | succ k ih =>
            intro c hc
            have i1 := ih (c + 1) (by omega)
            rw [qb_J_keep_27]
            simp only [zI_of]
            rw [if_neg (by rw [zI_lt (by omega)]; omega), show zI (1 : Int) = zI ((1 : Nat) : Int) from rfl, zI_subN (by omega), c_J_power (d + 28) (by omega) (by omega), qbL_some, c_J_power (d + 28) (by omega) (by omega), qbL_some, ffr_s]
            unfold kpB at i1 ⊢
            by_cases q : 0 < lg_cmp (Int64.ofInt 2 * lN ((t - 1) ^ c)) (lN (t ^ c))
            · rw [if_pos q, decide_eq_true q, if_neg (show ¬ (!true) = true by decide), qb_J_keep_55, zI_of, zI_add]
              exact i1
            · rw [if_neg q, decide_eq_false q, if_pos (show (!false) = true by decide)]
              rfl
        rw [qe_J_keep, qb_J_keep_0]
        simp only [zI_of]
        rw [if_pos (by rw [zI_le (by omega)]; omega), qb_J_keep_12]
        simp only [zI_of]
        rw [if_pos (by rw [zI_le (by omega)]; omega), qb_J_keep_25, zI_of]
        exact L 13 0 (by decide)
      · have L : ∀ k c, c + k = 13 → qx (d + 29) qc_M_keep 20 [none, some (qI (zI (t : Nat))), none, some (qI (zI (c : Nat)))] [] μ = some (some (qI (zI (onM (ffr (kpB t) k c)))), μ) := by
          intro k
          induction k with
          | zero =>
            intro c hc
            rw [qb_M_keep_20]
            simp only [zI_of]
            rw [if_pos (by rw [zI_le (by omega)]; omega), qb_M_keep_56, zI_of]
            rfl
          | succ k ih =>
            intro c hc
            have i1 := ih (c + 1) (by omega)
            rw [qb_M_keep_20]
            simp only [zI_of]
            rw [if_neg (by rw [zI_le (by omega)]; omega), show zI (1 : Int) = zI ((1 : Nat) : Int) from rfl, zI_subN (by omega), zI_nI (t - 1), nI_l (by omega), c_M_power (d + 28) (by omega), qbL_some, show (zI (t : Nat)).toInt64 = lN t by rw [zI_nI]; exact nI_l (by omega), c_M_power (d + 28) (by omega), qbL_some, ffr_s]
            unfold kpB at i1 ⊢
            by_cases q : 0 < lg_cmp (Int64.ofInt 2 * lN ((t - 1) ^ c)) (lN (t ^ c))
            · rw [if_pos q, decide_eq_true q, if_neg (show ¬ (!true) = true by decide), qb_M_keep_50, zI_of, zI_add]
              exact i1
            · rw [if_neg q, decide_eq_false q, if_pos (show (!false) = true by decide)]
              rfl
        rw [eM d μ h, if_neg e1, if_neg e2, if_pos zI0, qb_M_keep_18, zI_of]
        exact L 13 0 (by decide)
end
