section
/-! delay, changed hands -/
def gre (P : Nat → Bool) : Nat → Nat
  | 0 => 0
  | k + 1 => if P (k + 1) = true then k + 1 else gre P k
theorem gre_s (P : Nat → Bool) (k : Nat) : gre P (k + 1) = if P (k + 1) = true then k + 1 else gre P k := rfl
theorem gre_le (P : Nat → Bool) : ∀ k, gre P k ≤ k
  | 0 => Nat.le_refl 0
  | k + 1 => by
    rw [gre_s]
    have := gre_le P k
    split <;> omega
def dlP (s : AS) (w n k : Nat) : Bool := decide (lV s w (aP s w 0) n ≤ lV (latS s w k) w (aP s w 0) n)
theorem c_M_laidLater (d : Nat) {w x n : Nat} {μ : QM} {σ : GS} (h : MI μ σ) (ok : GOK σ) (hw : w < 2) (hx : x ≤ 83) (hn : aD (gS σ) ≤ n) (hn2 : n ≤ 83) :
    ∃ μ', qcall qprogs (d + 7) 253 [qR (24, 0, 0), qI (zI (w : Nat)), qI (zI (x : Nat)), qI (zI (n : Nat))] μ = some (some (qI (zI (lV (latS (gS σ) w x) w (aP (gS σ) w 0) n : Nat))), μ') ∧ MI μ' σ ∧ Fr isMd μ μ' := by
  have n12 := ok.1.2.1
  obtain ⟨μ1, r1, r2, r3, r4⟩ := m_keep1 (d + 4) h ok
  have L : ∀ r c μ2, c + r = aN (gS σ) → FrS μ1 μ2 → RM μ2 (latN (gS σ) w x c) → ∃ μ3, qx (d + 6) qc_M_laidLater 9 [some (qR (24, 0, 0)), some (qI (zI (w : Nat))), some (qI (zI (x : Nat))), some (qI (zI (n : Nat))), some (qI (zI (c : Nat)))] [] μ2 = qx (d + 6) qc_M_laidLater 76 [some (qR (24, 0, 0)), some (qI (zI (w : Nat))), none, some (qI (zI (n : Nat))), none] [] μ3 ∧ FrS μ1 μ3 ∧ RM μ3 (latS (gS σ) w x) := by
    intro r
    induction r with
    | zero =>
      intro c μ2 hc f hR
      rw [qb_M_laidLater_9, hR.cnt, show aN (latN (gS σ) w x c) = aN (gS σ) from rfl, if_pos (by rw [zI_le (by omega)]; omega)]
      rw [show c = aN (gS σ) by omega] at hR
      exact ⟨μ2, rfl, f, hR⟩
    | succ r ih =>
      intro c μ2 hc f hR
      have hcn : c < aN (gS σ) := by omega
      have hcn2 : c < aN (latN (gS σ) w x c) := hcn
      obtain ⟨-, -, b2, b3, b4⟩ := ok.1.c hcn
      have r4 := hR.us hcn2
      have r2 := hR.wh hcn2
      have r3 := hR.fo hcn2
      rw [latN_c, if_neg (by omega)] at r4 r2 r3
      have go : ∀ v : Nat, v = (if aC (gS σ) c 2 = w ∧ aC (gS σ) c 4 = 0 then min 83 (aC (gS σ) c 3 + x) else aC (gS σ) c 3) → ∃ μ3, qx (d + 6) qc_M_laidLater 69 [some (qR (24, 0, 0)), some (qI (zI (w : Nat))), some (qI (zI (x : Nat))), some (qI (zI (n : Nat))), some (qI (zI (c : Nat)))] [qI (zI (v : Nat)), qI (zI (c : Nat)), qR (34, 0, 0)] μ2 = qx (d + 6) qc_M_laidLater 76 [some (qR (24, 0, 0)), some (qI (zI (w : Nat))), none, some (qI (zI (n : Nat))), none] [] μ3 ∧ FrS μ1 μ3 ∧ RM μ3 (latS (gS σ) w x) := fun v hv => by
        rw [qb_M_laidLater_69, zI_oob (n := 12) (by omega), cond_false, show qix (zI (c : Nat)) = c from zI_ixN (by omega), zI_of, zI_add]
        refine ih (c + 1) _ (by omega) (f.tr (FrS.row (by decide))) ((hR.sFo (c := c) (v := v)).st rfl rfl (fun _ _ _ _ => rfl) fun c' k' hc' hk' => ?_)
        rw [aC_setC, latN_c, latN_c]
        by_cases e : c' = c
        · subst e
          by_cases e3 : k' = 3
          · subst e3
            rw [if_pos (show c' = c' ∧ 3 = 3 from ⟨rfl, rfl⟩), hv]
            by_cases q : aC (gS σ) c' 2 = w ∧ aC (gS σ) c' 4 = 0
            · rw [if_pos q, if_pos (show 3 = 3 ∧ c' < c' + 1 ∧ aC (gS σ) c' 2 = w ∧ aC (gS σ) c' 4 = 0 from ⟨rfl, by omega, q.1, q.2⟩)]
            · rw [if_neg q, if_neg (show ¬ (3 = 3 ∧ c' < c' + 1 ∧ aC (gS σ) c' 2 = w ∧ aC (gS σ) c' 4 = 0) from fun z => q ⟨z.2.2.1, z.2.2.2⟩)]
          · rw [if_neg (fun z => e3 z.1), if_neg (fun z => e3 z.2), if_neg (fun z => e3 z.1)]
        · have : c' < c + 1 ↔ c' < c := by omega
          simp only [this, e, false_and, if_false]
      have stay : ¬ (aC (gS σ) c 2 = w ∧ aC (gS σ) c 4 = 0) → ∃ μ3, qx (d + 6) qc_M_laidLater 62 [some (qR (24, 0, 0)), some (qI (zI (w : Nat))), some (qI (zI (x : Nat))), some (qI (zI (n : Nat))), some (qI (zI (c : Nat)))] [qI (zI (c : Nat)), qR (34, 0, 0)] μ2 = qx (d + 6) qc_M_laidLater 76 [some (qR (24, 0, 0)), some (qI (zI (w : Nat))), none, some (qI (zI (n : Nat))), none] [] μ3 ∧ FrS μ1 μ3 ∧ RM μ3 (latS (gS σ) w x) := fun q => by
        rw [qb_M_laidLater_62, zI_oob (n := 12) (by omega), cond_false, show qix (zI (c : Nat)) = c from zI_ixN (by omega), r3]
        exact go _ (if_neg q).symm
      rw [qb_M_laidLater_9, hR.cnt, show aN (latN (gS σ) w x c) = aN (gS σ) from rfl, if_neg (by rw [zI_le (by omega)]; omega), zI_oob (n := 12) (by omega), cond_false, show qix (zI (c : Nat)) = c from zI_ixN (by omega), r2]
      by_cases q : aC (gS σ) c 2 = w
      · rw [if_pos (by rw [q]), cond_false, r4]
        by_cases q2 : aC (gS σ) c 4 = 0
        · rw [if_pos (by rw [q2]; exact zI0), cond_false, r3, zI_of, zI_add, c_M_lesser (d + 5) (by omega), qbI_some, show min (83 : Int) ((aC (gS σ) c 3 : Nat) + (x : Nat) : Int) = ((min 83 (aC (gS σ) c 3 + x) : Nat) : Int) by omega]
          exact go _ (if_pos ⟨q, q2⟩).symm
        · rw [if_neg (by rw [zI_0, zI_eq (by omega)]; omega)]
          exact stay fun z => q2 z.2
      · rw [if_neg (by rw [zI_eq (by omega)]; omega)]
        exact stay fun z => q z.1
  obtain ⟨μ3, q1, q2, q3⟩ := L (aN (gS σ)) 0 μ1 (by omega) FrS.rf (r2.st rfl rfl (fun _ _ _ _ => rfl) (fun c k _ _ => by rw [latN_c, if_neg (by omega)]))
  obtain ⟨μ4, t1, t2, -⟩ := c_M_laidValue d (w := w) q3 (latS_ok ok.1) hw hn hn2
  obtain ⟨μ5, u1, u2, u3, -⟩ := m_putb1 (d + 4) h ok ((r4.tr q2.r).tr t2.r) ((r3.s q2).q t2)
  refine ⟨μ5, ?_, u2, u3⟩
  rw [qe_M_laidLater, qb_M_laidLater_0]
  simp only [zI_of]
  rw [r1, qbV_some, show zI (0 : Int) = zI ((0 : Nat) : Int) from rfl, q1, qb_M_laidLater_76]
  simp only [zI_of]
  rw [t1, qbI_some, u1, qbV_some]
  rfl
theorem op_delay {σ : GS} (ok : GOK σ) {z1 z2 : Int} (h1 : iB z1) (h2 : iB z2) : OP 100 254 [qI (zI z1), qI (zI z2)] σ := by
  have hr := fOne_r (z := z1) (fDay_r (gS σ) z2)
  have bD := ok.1.1
  by_cases hf : fOne z1 (fDay (gS σ) z2) = 0
  · have hf0 := hf
    obtain ⟨⟨w, rfl, hw⟩, hd⟩ := fOne_0 hf
    obtain ⟨n, rfl, hn, hn2⟩ := fDay_0 hd
    have lv := lV_le ok.1 (w := w) (wd := aP (gS σ) w 0) hn2
    refine ⟨qI (zI (gre (dlP (gS σ) w n) (n - aD (gS σ)) : Nat)), σ, fun d μ h => ?_, fun d μ h => ?_, ok⟩
    · have L : ∀ k (μ1 : QM), aD (gS σ) + k ≤ 83 → CI μ1 σ → ∃ μ2, qx (d + 29) qc_J_delay 43 [some (qR (0, 0, 0)), some (qI (zI (w : Nat))), some (qI (zI (n : Nat))), none, some (qI (zI (lV (gS σ) w (aP (gS σ) w 0) n : Nat))), some (qI (zI (k : Nat)))] [] μ1 = some (some (qI (zI (gre (dlP (gS σ) w n) k : Nat))), μ2) ∧ CI μ2 σ ∧ Fr isCl μ1 μ2 := by
        intro k
        induction k with
        | zero =>
          intro μ1 hk h
          rw [qb_J_delay_43, if_pos (by decide +kernel), qb_J_delay_96, zI_of]
          exact ⟨μ1, rfl, h, Fr.rf⟩
        | succ k ih =>
          intro μ1 hk h
          obtain ⟨μ2, r1, r2, r3, r4⟩ := j_mind (d + 27) h ok
          obtain ⟨μ3, q1, q2, q3⟩ := c_Affair_findLater (d + 28) (w := w) (x := k + 1) (show 1 < 11 by decide) r4 ok.1 hw (by omega)
          have ci := r2.mind q2
          obtain ⟨μ4, μ5, t1, t2, t3, t4, -⟩ := j_val (d + 13) (w := w) ci.1 (show 1 < 11 by decide) q3 (latS_ok ok.1) hw hn hn2
          have lw := lV_le (latS_ok (w := w) (k := k + 1) ok.1) (w := w) (wd := aP (gS σ) w 0) hn2
          have t2' : qcall qprogs (d + 29) 33 [qR (5, w, 0)] μ4 = some (some (qI (zI (lV (latS (gS σ) w (k + 1)) w (aP (gS σ) w 0) n : Nat))), μ5) := t2
          have f := r3.tr (ci.2.tr t4)
          rw [qb_J_delay_43, if_neg (by rw [zI_0, zI_le (by omega)]; omega), r1, qbV_some, q1, qbV_some, t1, qbR_some (qd5 hw), t2', qbI_some, gre_s]
          unfold dlP
          by_cases e : lV (gS σ) w (aP (gS σ) w 0) n ≤ lV (latS (gS σ) w (k + 1)) w (aP (gS σ) w 0) n
          · rw [if_neg (by rw [zI_lt (by omega)]; omega), decide_eq_true e, if_pos rfl]
            exact ⟨μ5, rfl, t3, f⟩
          · obtain ⟨μ6, x1, x2, x3⟩ := ih μ5 (by omega) t3
            rw [if_pos (by rw [zI_lt (by omega)]; omega), decide_eq_false e, if_neg (show ¬ false = true by decide), qb_J_delay_90, zI_of, zI_add, show ((k + 1 : Nat) : Int) + -1 = (k : Nat) by omega]
            exact ⟨μ6, x1, x2, f.tr x3⟩
      obtain ⟨μ1, μ2, t1, t2, t3, t4, -⟩ := j_val (d + 13) h (show 0 < 11 by decide) h.1.1 ok.1 hw hn hn2
      obtain ⟨μ3, x1, x2, x3⟩ := L (n - aD (gS σ)) μ2 (by omega) t3
      refine ⟨μ3, ?_, x2, t4.tr x3⟩
      rw [qe_J_delay, qb_J_delay_0, c_J_faultOfOneAndDay (d + 27) h.1.1 ok.1 h1 h2, qbI_some, hf, if_pos zI0, qb_J_delay_17, t1, qbR_some (qd5 hw), t2, qbI_some, t3.1.1.day, zI_subN hn]
      exact x1
    · have L : ∀ r k (μ1 : QM), aD (gS σ) + k + r = n → MI μ1 σ → ∃ μ2, qx (d + 29) qc_M_delay 31 [some (qR (24, 0, 0)), some (qI (zI (w : Nat))), some (qI (zI (n : Nat))), none, some (qI (zI (lV (gS σ) w (aP (gS σ) w 0) n : Nat))), some (qI (zI (gre (dlP (gS σ) w n) k : Nat))), some (qI (zI ((k + 1 : Nat) : Int)))] [] μ1 = some (some (qI (zI (gre (dlP (gS σ) w n) (n - aD (gS σ)) : Nat))), μ2) ∧ MI μ2 σ ∧ Fr isMd μ1 μ2 := by
        intro r
        induction r with
        | zero =>
          intro k μ1 hk h
          rw [qb_M_delay_31, h.1.day, zI_subN hn, if_pos (by rw [zI_lt (by omega)]; omega), qb_M_delay_70, show n - aD (gS σ) = k by omega]
          exact ⟨μ1, rfl, h, Fr.rf⟩
        | succ r ih =>
          intro k μ1 hk h
          obtain ⟨μ2, r1, r2, r3⟩ := c_M_laidLater (d + 22) (w := w) (x := k + 1) h ok hw (by omega) hn hn2
          obtain ⟨μ3, x1, x2, x3⟩ := ih (k + 1) μ2 (by omega) r2
          have lw := lV_le (latS_ok (w := w) (k := k + 1) ok.1) (w := w) (wd := aP (gS σ) w 0) hn2
          rw [gre_s] at x1
          unfold dlP at x1 ⊢
          refine ⟨μ3, ?_, x2, r3.tr x3⟩
          rw [qb_M_delay_31, h.1.day, zI_subN hn, if_neg (by rw [zI_lt (by omega)]; omega), r1, qbI_some]
          by_cases e : lV (gS σ) w (aP (gS σ) w 0) n ≤ lV (latS (gS σ) w (k + 1)) w (aP (gS σ) w 0) n
          · rw [decide_eq_true e, if_pos rfl] at x1
            rw [if_neg (by rw [zI_lt (by omega)]; omega), qb_M_delay_62, zI_of, zI_add]
            exact x1
          · rw [decide_eq_false e, if_neg (show ¬ false = true by decide)] at x1
            rw [if_pos (by rw [zI_lt (by omega)]; omega), qb_M_delay_60, qb_M_delay_62, zI_of, zI_add]
            exact x1
      obtain ⟨μ1, t1, t2, -⟩ := c_M_laidValue (d + 23) h.1 ok.1 hw hn hn2
      have m1 := h.q ok t2
      obtain ⟨μ3, x1, x2, x3⟩ := L (n - aD (gS σ)) 0 μ1 (by omega) m1
      refine ⟨μ3, ?_, x2, t2.r.md.tr x3⟩
      rw [qe_M_delay, qb_M_delay_0, c_M_notWho (d + 27) h.1 ok.1 h1 h2, qbI_some, hf, if_pos zI0, qb_M_delay_17, t1, qbI_some, zI_of, zI_of]
      exact x1
  ·
    have hr2 : -6 ≤ fOne z1 (fDay (gS σ) z2) ∧ fOne z1 (fDay (gS σ) z2) ≤ -1 := by omega
    refine ⟨qI (zI (fOne z1 (fDay (gS σ) z2))), refS σ (-(fOne z1 (fDay (gS σ) z2))).toNat, fun d μ h => ?_, fun d μ h => ?_, ok.ref⟩
    · rw [qe_J_delay, qb_J_delay_0, c_J_faultOfOneAndDay (d + 27) h.1.1 ok.1 h1 h2, qbI_some, if_neg (zI_n0 hr2)]
      obtain ⟨μ9, r1, r2, r3⟩ := c_J_refuse (d + 28) h hr2
      exact ⟨μ9, by simp only [r1, qbI_some], r2, r3⟩
    · rw [qe_M_delay, qb_M_delay_0, c_M_notWho (d + 27) h.1 ok.1 h1 h2, qbI_some, if_neg (zI_n0 hr2)]
      obtain ⟨μ9, r1, r2, r3⟩ := c_M_no (d + 28) h hr2
      exact ⟨μ9, by simp only [r1, qbI_some], r2, r3⟩
/-- a cause for the other one -/
def flp (s : AS) (c : Nat) : AS := setC s c 2 (1 - aC s c 2)
theorem flp_ok {s : AS} (ok : aOK s) (c : Nat) : aOK (flp s c) := by
  have e : ∀ c' k, aC (flp s c) c' k = if c' = c ∧ k = 2 then 1 - aC s c 2 else aC s c' k := fun _ _ => rfl
  have hU : aU (flp s c) (aN s) = aU s (aN s) := aU_congr _ fun c' _ => by rw [e, if_neg (by omega)]
  have hP : ∀ v, v < 2 → okP (flp s c) v := fun v hv => by
    obtain ⟨h0, h1, h2, h3, h4⟩ := ok.p hv
    exact ⟨h0, h1, h2, by rw [show aN (flp s c) = aN s from rfl, hU]; exact h3, h4⟩
  refine ⟨ok.1, ok.2.1, hP 0 (by decide), hP 1 (by decide), fun c' hc => ?_⟩
  have hc : c' < aN s := hc
  obtain ⟨h0, h1, h2, h3, h4⟩ := ok.c (c := c') hc
  unfold okC
  simp only [e]
  refine ⟨by rw [if_neg (by omega)]; exact h0, by rw [if_neg (by omega)]; exact h1, ?_, by rw [if_neg (by omega)]; exact h3, by rw [if_neg (by omega)]; exact h4⟩
  split <;> omega
theorem flp_2 {s : AS} (c : Nat) : ∀ c' k, aC (setC (flp s c) c 2 (aC s c 2)) c' k = aC s c' k := fun c' k => by
  rw [aC_setC]
  by_cases e : c' = c ∧ k = 2
  · rw [if_pos e, e.1, e.2]
  · rw [if_neg e]
    exact if_neg e
def vCh (s : AS) (n k : Nat) : Nat := if k < aN s ∧ aX s k = true then lB (flp s k) n else 0
theorem op_changed {σ : GS} (ok : GOK σ) {z1 : Int} (h1 : iB z1) : OP 92 240 [qI (zI z1)] σ := by
  have b1 := h1.1
  have b2 := h1.2
  have bD := ok.1.1
  have n12 := ok.1.2.1
  have hr := fDay_r (gS σ) z1
  have eM : ∀ d μ, MI μ σ → qcall qprogs (d + 30) 240 [qR (24, 0, 0), qI (zI z1)] μ = if zI (fDay (gS σ) z1) = 0 then qx (d + 29) qc_M_changed 21 [some (qR (24, 0, 0)), some (qI (zI z1)), none, none, none, none, none] [] μ else qbI (qcall qprogs (d + 29) 152 [qR (24, 0, 0), qI (zI (fDay (gS σ) z1))] μ) (fun x4 μ3 => some (some (qI x4), μ3)) := fun d μ h => by
    rw [qe_M_changed, qb_M_changed_0, h.1.day, zI_of, c_M_bound (d + 28) (by omega), qbI_some]
    rfl
  by_cases hf : fDay (gS σ) z1 = 0
  · have hf0 := hf
    obtain ⟨n, rfl, hn, hn2⟩ := fDay_0 hf
    have v1 := lB_le ok.1 hn2
    have vk : ∀ k, vCh (gS σ) n k ≤ 24696 := fun k => by
      unfold vCh
      split
      · exact lB_le (flp_ok ok.1 k) hn2
      · omega
    have vle : ∀ k, (scn (vCh (gS σ) n) 0 (lB (gS σ) n) k).2 ≤ 24696 := scn_le v1 vk
    have cut : scn (vCh (gS σ) n) 0 (lB (gS σ) n) 12 = scn (vCh (gS σ) n) 0 (lB (gS σ) n) (aN (gS σ)) := by
      have := scn_cut (v := vCh (gS σ) n) (o := 0) (m0 := lB (gS σ) n) (N := aN (gS σ)) (fun k hk => if_neg (by omega)) (12 - aN (gS σ))
      rw [show aN (gS σ) + (12 - aN (gS σ)) = 12 by omega] at this
      exact this
    refine ⟨qI (zI (scn (vCh (gS σ) n) 0 (lB (gS σ) n) 12).1), σ, fun d μ h => ?_, fun d μ h => ?_, ok⟩
    · have L : ∀ r k (μ1 : QM), k + r = 12 → CI μ1 σ → RA μ1 1 (gS σ) → ∃ μ2, qx (d + 29) qc_J_changed 44 [some (qR (0, 0, 0)), some (qI (zI (n : Nat))), none, some (qI (zI ((scn (vCh (gS σ) n) 0 (lB (gS σ) n) k).2 : Nat))), some (qI (zI (scn (vCh (gS σ) n) 0 (lB (gS σ) n) k).1)), some (qI (zI (k : Nat))), none, none, none] [] μ1 = some (some (qI (zI (scn (vCh (gS σ) n) 0 (lB (gS σ) n) 12).1)), μ2) ∧ CI μ2 σ ∧ Fr isCl μ1 μ2 := by
        intro r
        induction r with
        | zero =>
          intro k μ1 hk h hA
          rw [qb_J_changed_44, zI_of, if_pos (by rw [zI_le (by omega)]; omega), qb_J_changed_132, show k = 12 by omega]
          exact ⟨μ1, rfl, h, Fr.rf⟩
        | succ r ih =>
          intro k μ1 hk h hA
          have vlk := vle k
          have vkk := vk k
          have skip : vCh (gS σ) n k = 0 → ∃ μ2, qx (d + 29) qc_J_changed 126 [some (qR (0, 0, 0)), some (qI (zI (n : Nat))), none, some (qI (zI ((scn (vCh (gS σ) n) 0 (lB (gS σ) n) k).2 : Nat))), some (qI (zI (scn (vCh (gS σ) n) 0 (lB (gS σ) n) k).1)), some (qI (zI (k : Nat))), none, none, none] [] μ1 = some (some (qI (zI (scn (vCh (gS σ) n) 0 (lB (gS σ) n) 12).1)), μ2) ∧ CI μ2 σ ∧ Fr isCl μ1 μ2 := fun e => by
            obtain ⟨μ3, x1, x2, x3⟩ := ih (k + 1) μ1 (by omega) h hA
            rw [scn_s, e, if_neg (Nat.not_lt_zero _)] at x1
            refine ⟨μ3, ?_, x2, x3⟩
            rw [qb_J_changed_126, zI_of, zI_add]
            exact x1
          rw [qb_J_changed_44, zI_of, if_neg (by rw [zI_le (by omega)]; omega)]
          by_cases q : k < aN (gS σ)
          · have b4 := (ok.1.c q).2.2.2.2
            have b2 := (ok.1.c q).2.2.1
            rw [c_Affair_causeAt (d + 28) (show 1 < 11 by decide) hA ok.1 q, qbN_some (qd1 (by decide) (by omega)), hA.c 4 q, qbz_z b4]
            by_cases q2 : aC (gS σ) k 4 = 0
            · have ev : vCh (gS σ) n k = lB (flp (gS σ) k) n := if_pos ⟨q, by simp [aX, q2]⟩
              have f1 : Fr (isA 1) μ1 (qsi μ1 (1, 1, k) 2 (zI ((1 - aC (gS σ) k 2 : Nat) : Int))) := Fr.si ⟨Or.inl rfl, rfl⟩
              have ci := h.mind f1
              have hA2 : RA (qsi μ1 (1, 1, k) 2 (zI ((1 - aC (gS σ) k 2 : Nat) : Int))) 1 (flp (gS σ) k) := hA.sC (by decide) (by decide)
              obtain ⟨μ2, r1, r2, r3, r4⟩ := j_both (d + 12) ci.1 (show 1 < 11 by decide) hA2 (flp_ok ok.1 k) hn hn2
              have f2 : Fr (isA 1) μ2 (qsi μ2 (1, 1, k) 2 (zI (aC (gS σ) k 2 : Nat))) := Fr.si ⟨Or.inl rfl, rfl⟩
              have ci2 := r2.mind f2
              have hA3 : RA (qsi μ2 (1, 1, k) 2 (zI (aC (gS σ) k 2 : Nat))) 1 (gS σ) := ((hA2.pls r4).sC (k := 2) (v := aC (gS σ) k 2) (by decide) (by decide)).congr rfl rfl (fun _ _ _ _ => rfl) (fun c' k' _ _ => (flp_2 k c' k').symm)
              obtain ⟨μ3, x1, x2, x3⟩ := ih (k + 1) _ (by omega) ci2.1 hA3
              rw [scn_s, Nat.zero_add] at x1
              refine ⟨μ3, ?_, x2, ci.2.tr (r3.tr (ci2.2.tr x3))⟩
              rw [if_pos (by rw [q2]; exact zI0), qb_J_changed_78, hA.c 2 q, c_J_otherThan (d + 28) (by omega), qbI_some, r1, qbI_some]
              by_cases e : (scn (vCh (gS σ) n) 0 (lB (gS σ) n) k).2 < vCh (gS σ) n k
              · rw [if_pos e] at x1
                rw [← ev, if_neg (by rw [zI_le (by omega)]; omega), qb_J_changed_126, zI_of, zI_add]
                exact x1
              · rw [if_neg e] at x1
                rw [← ev, if_pos (by rw [zI_le (by omega)]; omega), qb_J_changed_126, zI_of, zI_add]
                exact x1
            · rw [if_neg (by rw [zI_0, zI_eq (by omega)]; omega)]
              exact skip (if_neg (fun z => q2 (by simpa [aX] using z.2)))
          · rw [c_Affair_causeAtN (d + 28) (show 1 < 11 by decide) hA ok.1 (by rw [zI_int (by omega) (by omega)]; omega), qbN_none]
            exact skip (if_neg (fun z => q z.1))
      obtain ⟨μ1, r1, r2, r3, r4⟩ := j_both (d + 12) h (show 0 < 11 by decide) h.1.1 ok.1 hn hn2
      obtain ⟨μ2, t1, t2, t3, t4⟩ := j_mind (d + 27) r2 ok
      obtain ⟨μ3, x1, x2, x3⟩ := L 12 0 μ2 (by decide) t2 t4
      refine ⟨μ3, ?_, x2, r3.tr (t3.tr x3)⟩
      rw [qe_J_changed, qb_J_changed_0, c_J_faultOfDay (d + 28) h.1.1 ok.1 h1, qbI_some, hf, if_pos zI0, qb_J_changed_16, r1, qbI_some, t1, qbV_some, zI_of, zI_of]
      exact x1
    · have L : ∀ r k (μ1 : QM), k + r = aN (gS σ) → MI μ1 σ → ∃ μ2, qx (d + 29) qc_M_changed 34 [some (qR (24, 0, 0)), some (qI (zI (n : Nat))), none, some (qI (zI ((scn (vCh (gS σ) n) 0 (lB (gS σ) n) k).2 : Nat))), some (qI (zI (scn (vCh (gS σ) n) 0 (lB (gS σ) n) k).1)), some (qI (zI (k : Nat))), none] [] μ1 = some (some (qI (zI (scn (vCh (gS σ) n) 0 (lB (gS σ) n) 12).1)), μ2) ∧ MI μ2 σ ∧ Fr isMd μ1 μ2 := by
        intro r
        induction r with
        | zero =>
          intro k μ1 hk h
          rw [qb_M_changed_34, h.1.cnt, if_pos (by rw [zI_le (by omega)]; omega), qb_M_changed_118, cut, show k = aN (gS σ) by omega]
          exact ⟨μ1, rfl, h, Fr.rf⟩
        | succ r ih =>
          intro k μ1 hk h
          have vlk := vle k
          have vkk := vk k
          have q : k < aN (gS σ) := by omega
          have b4 := (ok.1.c q).2.2.2.2
          have b2 := (ok.1.c q).2.2.1
          rw [qb_M_changed_34, h.1.cnt, if_neg (by rw [zI_le (by omega)]; omega), zI_oob (n := 12) (by omega), cond_false, show qix (zI (k : Nat)) = k from zI_ixN (by omega), h.1.us q]
          by_cases q2 : aC (gS σ) k 4 = 0
          · have ev : vCh (gS σ) n k = lB (flp (gS σ) k) n := if_pos ⟨q, by simp [aX, q2]⟩
            have hR2 : RM (qsi μ1 (33, 0, 0) k (zI ((1 - aC (gS σ) k 2 : Nat) : Int))) (flp (gS σ) k) := h.1.sWh
            obtain ⟨μ2, r1, r2⟩ := c_M_laidOfBoth (d + 22) hR2 (flp_ok ok.1 k) hn hn2
            have hR3 := hR2.q r2
            have e33 : μ2.1 (33, 0, 0) k = zI ((1 - aC (gS σ) k 2 : Nat) : Int) := by
              rw [hR3.wh (c := k) q]
              exact zI_congr (congrArg _ (if_pos ⟨rfl, rfl⟩))
            have hR4 : RM (qsi μ2 (33, 0, 0) k (zI (aC (gS σ) k 2 : Nat))) (gS σ) := (hR3.sWh (c := k) (v := aC (gS σ) k 2)).st rfl rfl (fun _ _ _ _ => rfl) (fun c' k' _ _ => (flp_2 k c' k').symm)
            have m2 := h.rr ok (((FrS.row (by decide)).r.tr r2.r).tr (FrS.row (by decide)).r) hR4
            obtain ⟨μ3, x1, x2, x3⟩ := ih (k + 1) _ (by omega) m2.1
            rw [scn_s, Nat.zero_add] at x1
            refine ⟨μ3, ?_, x2, m2.2.tr x3⟩
            rw [zI_of, if_neg (by rw [zI_eq (by omega)]; omega), qb_M_changed_57, zI_oob (n := 12) (by omega), cond_false, cond_false, show qix (zI (k : Nat)) = k from zI_ixN (by omega), h.1.wh q, zI_of, show zI (1 : Int) = zI ((1 : Nat) : Int) from rfl, zI_subN b2, r1, qbI_some, cond_false, cond_false, e33, zI_subN (by omega), show 1 - (1 - aC (gS σ) k 2) = aC (gS σ) k 2 by omega]
            by_cases e : (scn (vCh (gS σ) n) 0 (lB (gS σ) n) k).2 < vCh (gS σ) n k
            · rw [if_pos e] at x1
              rw [← ev, if_pos (by rw [zI_lt (by omega)]; omega), qb_M_changed_105, qb_M_changed_112, zI_of, zI_add]
              exact x1
            · rw [if_neg e] at x1
              rw [← ev, if_neg (by rw [zI_lt (by omega)]; omega), qb_M_changed_112, zI_of, zI_add]
              exact x1
          · have e0 : vCh (gS σ) n k = 0 := if_neg (fun z => q2 (by simpa [aX] using z.2))
            obtain ⟨μ3, x1, x2, x3⟩ := ih (k + 1) μ1 (by omega) h
            rw [scn_s, e0, if_neg (Nat.not_lt_zero _)] at x1
            refine ⟨μ3, ?_, x2, x3⟩
            rw [zI_of, if_pos (by rw [zI_eq (by omega)]; omega), qb_M_changed_112, zI_of, zI_add]
            exact x1
      obtain ⟨μ1, t1, t2⟩ := c_M_laidOfBoth (d + 22) h.1 ok.1 hn hn2
      have m1 := h.q ok t2
      obtain ⟨μ3, x1, x2, x3⟩ := L (aN (gS σ)) 0 μ1 (by omega) m1
      refine ⟨μ3, ?_, x2, t2.r.md.tr x3⟩
      rw [eM d μ h, hf, if_pos zI0, qb_M_changed_21, t1, qbI_some, zI_of, zI_of]
      exact x1
  · have hr2 : -6 ≤ fDay (gS σ) z1 ∧ fDay (gS σ) z1 ≤ -1 := by omega
    refine ⟨qI (zI (fDay (gS σ) z1)), refS σ (-(fDay (gS σ) z1)).toNat, fun d μ h => ?_, fun d μ h => ?_, ok.ref⟩
    · rw [qe_J_changed, qb_J_changed_0, c_J_faultOfDay (d + 28) h.1.1 ok.1 h1, qbI_some, if_neg (zI_n0 hr2)]
      exact j_ref1 (d := d + 28) h hr2
    · rw [eM d μ h, if_neg (zI_n0 hr2)]
      exact m_ref1 (d := d + 28) h hr2
end
