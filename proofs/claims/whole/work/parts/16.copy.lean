/-! the class's affairs: copies, new causes, later ones -/
theorem kpo_congr {s s' : AS} {c : Nat} (h0 : aC s' c 0 = aC s c 0) (h1 : aC s' c 1 = aC s c 1) : aK s' c = aK s c ∧ aW s' c = aW s c := by
  unfold aK aW
  rw [h0, h1]
  exact ⟨rfl, rfl⟩
theorem RA.congr {μ : QM} {j : Nat} {s s' : AS} (h : RA μ j s) (e1 : aD s' = aD s) (e2 : aN s' = aN s) (e3 : ∀ w k, w < 2 → k < 5 → aP s' w k = aP s w k) (e4 : ∀ c k, c < aN s → k < 5 → aC s' c k = aC s c k) : RA μ j s' := by
  obtain ⟨h1, h2, h3, h4, h5⟩ := h
  refine ⟨by rw [e1]; exact h1, by rw [e2]; exact h2, fun w k hw hk => by rw [e3 w k hw hk]; exact h3 w k hw hk, fun c k hc hk => ?_, fun c hc => ?_⟩
  · rw [e2] at hc
    rw [e4 c k hc hk]; exact h4 c k hc hk
  · rw [e2] at hc
    obtain ⟨k1, k2⟩ := kpo_congr (e4 c 0 hc (by decide)) (e4 c 1 hc (by decide))
    rw [k1, k2]
    exact h5 c hc
/-- a picture of the first n causes -/
def RAn (μ : QM) (j : Nat) (s : AS) (n : Nat) : Prop := μ.1 (2, j, 0) 0 = zI (aD s) ∧ μ.1 (2, j, 0) 4 = zI (aN s) ∧ (∀ w k, w < 2 → k < 5 → μ.1 (3, j, w) k = zI (aP s w k)) ∧ (∀ c k, c < n → k < 5 → μ.1 (1, j, c) k = zI (aC s c k)) ∧ (∀ c, c < n → μ.1 (1, j, c) 5 = zI (aK s c) ∧ μ.1 (1, j, c) 6 = zI (aW s c))
theorem c_Affair_copyFrom (d : Nat) {j j' : Nat} {s : AS} {μ : QM} (hj : j < 11) (hj' : j' < 11) (hne : j' ≠ j) (h : RA μ j' s) (ok : aOK s) :
    ∃ μ', qcall qprogs (d + 2) 9 [qR (2, j, 0), qR (2, j', 0)] μ = some (none, μ') ∧ Fr (isA j) μ μ' ∧ RA μ' j s := by
  have h12 := ok.2.1
  have hP : ∀ a, isA j' a → ¬ isA j a := fun a h1 h2 => hne (h1.2.symm.trans h2.2)
  have L : ∀ k c (μ1 : QM), c + k = aN s → Fr (isA j) μ μ1 → RAn μ1 j s c → ∃ μ', qx (d + 1) qc_Affair_copyFrom 40 [some (qR (2, j, 0)), some (qR (2, j', 0)), some (qI (zI c))] [] μ1 = some (none, μ') ∧ Fr (isA j) μ μ' ∧ RAn μ' j s (aN s) := by
    intro k
    induction k with
    | zero =>
      intro c μ1 hc f r
      rw [qb_Affair_copyFrom_40, r.2.1]
      simp (disch := omega) only [zI_of, zI_0, zI_1, zI_add, zI_sub, zI_mul, zI_neg, zI_lt, zI_le, zI_eq, zI_rem, zI_oob, zI_ixN, zI_ix, zI_ite, zI10, zI01, Int.toNat_natCast, cond_false, cond_true, q01_0, q01_1, q01_0z, q01_1z, qB_if, qB_ifz, qB_ret, qB_retz, qbI_some, qbV_some, qbL_some, qbR_some, qbN_some, qbN_none, true_or, or_true, false_or, or_false, if_true, if_false, Int.reduceEq, Int.reduceLT, Int.reduceLE, Int.reduceNeg, qb_Affair_copyFrom_75]
      rw [if_pos (by omega)]
      rw [show c = aN s by omega] at r
      exact ⟨_, rfl, f, r⟩
    | succ k ih =>
      intro c μ1 hc f r
      have hcn : c < aN s := by omega
      have b4 := (ok.c hcn).2.2.2.2
      have h2 := h.fr f hP
      obtain ⟨μ2, c2, f2, g2, g3⟩ := c_Cause_copyFrom d (μ := μ1) hj (show c < 12 by omega) hj' (show c < 12 by omega) hne
      rw [qb_Affair_copyFrom_40, r.2.1]
      simp (disch := omega) only [zI_of, zI_0, zI_1, zI_add, zI_sub, zI_mul, zI_neg, zI_lt, zI_le, zI_eq, zI_rem, zI_oob, zI_ixN, zI_ix, zI_ite, zI10, zI01, Int.toNat_natCast, cond_false, cond_true, q01_0, q01_1, q01_0z, q01_1z, qB_if, qB_ifz, qB_ret, qB_retz, qbI_some, qbV_some, qbL_some, qbR_some, qbN_some, qbN_none, true_or, or_true, false_or, or_false, if_true, if_false, Int.reduceEq, Int.reduceLT, Int.reduceLE, Int.reduceNeg, c2]
      rw [if_neg (by omega), if_neg (by omega)]
      refine ih (c + 1) μ2 (by omega) (f.tr (f2.mono fun a e => e ▸ ⟨Or.inl rfl, rfl⟩)) ?_
      have ne : ∀ a, a ≠ (1, j, c) → μ2.1 a = μ1.1 a := fun a ha => f2.1 a ha
      obtain ⟨r1, r2, r3, r4, r5⟩ := r
      refine ⟨by rw [ne _ (by simp)]; exact r1, by rw [ne _ (by simp)]; exact r2, fun w k hw hk => by rw [ne _ (by simp)]; exact r3 w k hw hk, fun c' k hc' hk => ?_, fun c' hc' => ?_⟩
      · by_cases e : c' = c
        · subst e
          by_cases e4 : k = 4
          · subst e4
            rw [g3, h2.c 4 hcn, qbz_z b4]
          · rw [g2 k (by omega) e4, h2.c k hcn hk]
        · rw [ne _ (by simp [e])]
          exact r4 c' k (by omega) hk
      · by_cases e : c' = c
        · subst e
          rw [g2 5 (by omega) (by omega), g2 6 (by omega) (by omega), h2.k hcn, h2.w hcn]
          exact ⟨rfl, rfl⟩
        · rw [ne _ (by simp [e])]
          exact r5 c' (by omega)
  have f0 : Fr (isA j) μ (qsi μ (2, j, 0) 0 (μ.1 (2, j', 0) 0)) := Fr.si ⟨Or.inr (Or.inl rfl), rfl⟩
  obtain ⟨μ1, c1, f1, g1, g1'⟩ := c_Person_copyFrom d (μ := qsi μ (2, j, 0) 0 (μ.1 (2, j', 0) 0)) hj (show 0 < 2 by decide) hj' (show 0 < 2 by decide) hne
  obtain ⟨μ2, c2, f2, g2, g2'⟩ := c_Person_copyFrom d (μ := μ1) hj (show 1 < 2 by decide) hj' (show 1 < 2 by decide) hne
  have F1 := f0.tr (f1.mono fun a (e : a = (3, j, 0)) => (e ▸ ⟨Or.inr (Or.inr rfl), rfl⟩ : isA j a))
  have F2 := F1.tr (f2.mono fun a (e : a = (3, j, 1)) => (e ▸ ⟨Or.inr (Or.inr rfl), rfl⟩ : isA j a))
  have F3 : Fr (isA j) μ (qsi μ2 (2, j, 0) 4 (μ2.1 (2, j', 0) 4)) := F2.si' ⟨Or.inr (Or.inl rfl), rfl⟩
  have hA := h.fr f0 hP
  have hB := h.fr F1 hP
  have hC := h.fr F2 hP
  rw [qe_Affair_copyFrom (h0 := qd2 hj) (h1 := qd2 hj'), qb_Affair_copyFrom_0, c1, qbV_some, c2, qbV_some, hC.cnt]
  rw [hC.cnt] at F3
  have key : RAn (qsi μ2 (2, j, 0) 4 (zI (aN s))) j s 0 := by
    have e2 : ∀ w, (qsi μ2 (2, j, 0) 4 (zI (aN s))).1 (3, j, w) = μ2.1 (3, j, w) := fun w => qsi_ne (by simp)
    refine ⟨?_, qsi_self _ _ _ _, ?_, fun c k hc => absurd hc (by omega), fun c hc => absurd hc (by omega)⟩
    · rw [show (qsi μ2 (2, j, 0) 4 (zI (aN s))).1 (2, j, 0) 0 = μ2.1 (2, j, 0) 0 from if_neg (by simp), f2.1 _ (by simp), f1.1 _ (by simp), qsi_self, h.day]
    · refine fun w k hw hk => ?_
      rw [e2]
      rcases (by omega : w = 0 ∨ w = 1) with rfl | rfl
      · rw [f2.1 _ (by simp)]
        by_cases e4 : k = 4
        · subst e4
          rw [g1', hA.p 4 (by decide), qbz_z (ok.p (by decide)).2.2.2.2]
        · rw [g1 k (by omega), hA.p k (by decide) hk]
      · by_cases e4 : k = 4
        · subst e4
          rw [g2', hB.p 4 (by decide), qbz_z (ok.p (by decide)).2.2.2.2]
        · rw [g2 k (by omega), hB.p k (by decide) hk]
  obtain ⟨μ3, c3, f3, r3⟩ := L (aN s) 0 _ (by omega) F3 key
  exact ⟨μ3, c3, f3, r3⟩
theorem c_Affair_bring (d : Nat) {j k f w x : Nat} {s : AS} {μ : QM} (hj : j < 11) (h : RA μ j s) (hn : aN s < 12) (hk : k ≤ 5) (hf : f ≤ 9) :
    ∃ μ', qcall qprogs (d + 3) 12 [qR (2, j, 0), qI (zI k), qI (zI f), qI (zI w), qI (zI x)] μ = some (none, μ') ∧ Fr (isA j) μ μ' ∧ RA μ' j (addC s k f w x) := by
  obtain ⟨μ1, c1, f1, g0, g1, g2, g3, g4, g5, g6⟩ := c_Cause_become d (c := aN s) (w := w) (x := x) (μ := μ) hj hn hk hf
  have ne : ∀ a, a ≠ (1, j, aN s) → μ1.1 a = μ.1 a := fun a ha => f1.1 a ha
  have F1 : Fr (isA j) μ μ1 := f1.mono fun a (e : a = _) => (e ▸ ⟨Or.inl rfl, rfl⟩ : isA j a)
  rw [qe_Affair_bring (h0 := qd2 hj), qb_Affair_bring_0, h.cnt]
  simp (disch := omega) only [zI_of, zI_0, zI_1, zI_add, zI_sub, zI_mul, zI_neg, zI_lt, zI_le, zI_eq, zI_rem, zI_oob, zI_ixN, zI_ix, zI_ite, zI10, zI01, Int.toNat_natCast, cond_false, cond_true, q01_0, q01_1, q01_0z, q01_1z, qB_if, qB_ifz, qB_ret, qB_retz, qbI_some, qbV_some, qbL_some, qbR_some, qbN_some, qbN_none, true_or, or_true, false_or, or_false, if_true, if_false, Int.reduceEq, Int.reduceLT, Int.reduceLE, Int.reduceNeg, qb_Affair_bring_17, h.cnt, c1, ne (2, j, 0) (by simp)]
  rw [if_neg (by omega), if_pos (by omega)]
  refine ⟨_, rfl, F1.si' ⟨Or.inr (Or.inl rfl), rfl⟩, ?_⟩
  obtain ⟨h1, h2, h3, h4, h5⟩ := h
  have e1 : ∀ w, (qsi μ1 (2, j, 0) 4 (zI (aN s + 1))).1 (3, j, w) = μ.1 (3, j, w) := fun w => (qsi_ne (by simp)).trans (ne _ (by simp))
  have e2 : ∀ c, (qsi μ1 (2, j, 0) 4 (zI (aN s + 1))).1 (1, j, c) = μ1.1 (1, j, c) := fun w => qsi_ne (by simp)
  have e3 : ∀ c k', aC (addC s k f w x) c k' = if c = aN s then (if k' = 0 then k else if k' = 1 then f else if k' = 2 then w else if k' = 3 then x else 0) else aC s c k' := fun _ _ => rfl
  refine ⟨(if_neg (by simp)).trans (by rw [ne _ (by simp)]; exact h1), qsi_self _ _ _ _, fun w' k' hw hk => by rw [e1]; exact h3 w' k' hw hk, fun c k' hc hk' => ?_, fun c hc => ?_⟩
  · rw [e2, e3]
    have hc : c < aN s + 1 := hc
    by_cases e : c = aN s
    · subst e
      rw [if_pos rfl]
      rcases (by omega : k' = 0 ∨ k' = 1 ∨ k' = 2 ∨ k' = 3 ∨ k' = 4) with rfl | rfl | rfl | rfl | rfl <;> simp [g0, g1, g2, g3, g4]
    · rw [if_neg e, ne _ (by simp [e])]
      exact h4 c k' (by omega) hk'
  · rw [e2]
    have hc : c < aN s + 1 := hc
    by_cases e : c = aN s
    · subst e
      unfold aK aW
      simp [e3, g5, g6]
    · rw [ne _ (by simp [e])]
      have := h5 c (by omega)
      unfold aK aW at this ⊢
      rw [e3, e3, if_neg e, if_neg e]
      exact this
theorem addC_ok {s : AS} {k f w x : Nat} (ok : aOK s) (hn : aN s < 12) (hk : k ≤ 5) (hf : f ≤ 9) (hw : w < 2) (hx : x ≤ 83) : aOK (addC s k f w x) := by
  have e3 : ∀ c k', aC (addC s k f w x) c k' = if c = aN s then (if k' = 0 then k else if k' = 1 then f else if k' = 2 then w else if k' = 3 then x else 0) else aC s c k' := fun _ _ => rfl
  have hU : aU (addC s k f w x) (aN s + 1) = aU s (aN s) := by
    show aU (addC s k f w x) (aN s) + aC (addC s k f w x) (aN s) 4 = _
    rw [aU_congr (s := addC s k f w x) (s' := s) (aN s) (fun c hc => by rw [e3, if_neg (by omega)]), e3]
    simp
  have hP : ∀ v, v < 2 → okP (addC s k f w x) v := fun v hv => by
    obtain ⟨h0, h1, h2, h3, h4⟩ := ok.p hv
    exact ⟨h0, h1, h2, by rw [show aN (addC s k f w x) = aN s + 1 from rfl, hU]; exact h3, h4⟩
  refine ⟨ok.1, by show aN s + 1 ≤ 12; omega, hP 0 (by decide), hP 1 (by decide), fun c hc => ?_⟩
  have hc : c < aN s + 1 := hc
  unfold okC
  simp only [e3]
  by_cases e : c = aN s
  · simp [e]; omega
  · simp only [e, if_false]
    exact ok.c (by omega)
/-- found later, the first n of them -/
def latN (s : AS) (w k n : Nat) : AS := (aD s, aN s, aP s, fun c k' => if k' = 3 ∧ c < n ∧ aC s c 2 = w ∧ aC s c 4 = 0 then min 83 (aC s c 3 + k) else aC s c k')
def latS (s : AS) (w k : Nat) : AS := latN s w k (aN s)
theorem latN_c (s : AS) (w k n c k' : Nat) : aC (latN s w k n) c k' = if k' = 3 ∧ c < n ∧ aC s c 2 = w ∧ aC s c 4 = 0 then min 83 (aC s c 3 + k) else aC s c k' := rfl
theorem c_Affair_findLater (d : Nat) {j w x : Nat} {s : AS} {μ : QM} (hj : j < 11) (h : RA μ j s) (ok : aOK s) (hw : w < 2) (hx : x ≤ 83) :
    ∃ μ', qcall qprogs (d + 1) 22 [qR (2, j, 0), qI (zI w), qI (zI x)] μ = some (none, μ') ∧ Fr (isA j) μ μ' ∧ RA μ' j (latS s w x) := by
  have h12 := ok.2.1
  have L : ∀ k c (μ1 : QM), c + k = aN s → Fr (isA j) μ μ1 → RA μ1 j (latN s w x c) → ∃ μ', qx d qc_Affair_findLater 2 [some (qR (2, j, 0)), some (qI (zI w)), some (qI (zI x)), some (qI (zI c))] [] μ1 = some (none, μ') ∧ Fr (isA j) μ μ' ∧ RA μ' j (latS s w x) := by
    intro k
    induction k with
    | zero =>
      intro c μ1 hc f r
      rw [qb_Affair_findLater_2, r.cnt, show aN (latN s w x c) = aN s from rfl]
      simp (disch := omega) only [zI_of, zI_0, zI_1, zI_add, zI_sub, zI_mul, zI_neg, zI_lt, zI_le, zI_eq, zI_rem, zI_oob, zI_ixN, zI_ix, zI_ite, zI10, zI01, Int.toNat_natCast, cond_false, cond_true, q01_0, q01_1, q01_0z, q01_1z, qB_if, qB_ifz, qB_ret, qB_retz, qbI_some, qbV_some, qbL_some, qbR_some, qbN_some, qbN_none, true_or, or_true, false_or, or_false, if_true, if_false, Int.reduceEq, Int.reduceLT, Int.reduceLE, Int.reduceNeg, qb_Affair_findLater_72]
      rw [if_pos (by omega)]
      rw [show c = aN s by omega] at r
      exact ⟨_, rfl, f, r⟩
    | succ k ih =>
      intro c μ1 hc f r
      have hcn : c < aN s := by omega
      have hcn2 : c < aN (latN s w x c) := hcn
      have b4 := (ok.c hcn).2.2.2.2
      have b2 := (ok.c hcn).2.2.1
      have b3 := (ok.c hcn).2.2.2.1
      have r4 := r.c 4 hcn2
      have r2 := r.c 2 hcn2
      have r3 := r.c 3 hcn2
      rw [latN_c, if_neg (by omega)] at r4 r2 r3
      rw [qb_Affair_findLater_2, r.cnt, show aN (latN s w x c) = aN s from rfl]
      simp (disch := omega) only [zI_of, zI_0, zI_1, zI_add, zI_sub, zI_mul, zI_neg, zI_lt, zI_le, zI_eq, zI_rem, zI_oob, zI_ixN, zI_ix, zI_ite, zI10, zI01, Int.toNat_natCast, cond_false, cond_true, q01_0, q01_1, q01_0z, q01_1z, qB_if, qB_ifz, qB_ret, qB_retz, qbI_some, qbV_some, qbL_some, qbR_some, qbN_some, qbN_none, true_or, or_true, false_or, or_false, if_true, if_false, Int.reduceEq, Int.reduceLT, Int.reduceLE, Int.reduceNeg, qb_Affair_findLater_66, r4, r2, r3, qbz_z b4]
      rw [if_neg (by omega), if_neg (by omega)]
      have stay : ¬ (aC s c 2 = w ∧ aC s c 4 = 0) → RA μ1 j (latN s w x (c + 1)) := fun hn => r.congr rfl rfl (fun _ _ _ _ => rfl) (fun c' k' hc' hk' => by
        rw [latN_c, latN_c]
        by_cases e : c' = c
        · subst e
          rw [if_neg (by omega), if_neg (by omega)]
        · have : c' < c + 1 ↔ c' < c := by omega
          simp only [this])
      by_cases h1 : aC s c 4 = 0
      · rw [if_pos (by omega)]
        by_cases h2 : aC s c 2 = w
        · rw [if_pos (by omega)]
          have ev : (if (aC s c 3 : Int) + x < 83 then (aC s c 3 : Int) + x else 83) = ((min 83 (aC s c 3 + x) : Nat) : Int) := by omega
          rw [ev]
          refine ih (c + 1) _ (by omega) (f.si' ⟨Or.inl rfl, rfl⟩) ?_
          refine (r.sC (k := 3) (by decide) (by decide)).congr rfl rfl (fun _ _ _ _ => rfl) (fun c' k' hc' hk' => ?_)
          rw [aC_setC, latN_c, latN_c]
          by_cases e : c' = c
          · subst e
            by_cases e3 : k' = 3
            · simp [e3, h1, h2]
            · simp [e3]
          · have : c' < c + 1 ↔ c' < c := by omega
            simp only [this, e, false_and, if_false]
        · rw [if_neg (by omega)]
          exact ih (c + 1) _ (by omega) f (stay fun z => h2 z.1)
      · rw [if_neg (by omega)]
        exact ih (c + 1) _ (by omega) f (stay fun z => h1 z.2)
  rw [qe_Affair_findLater (h0 := qd2 hj), qb_Affair_findLater_0]
  exact L (aN s) 0 μ (by omega) Fr.rf (h.congr rfl rfl (fun _ _ _ _ => rfl) (fun c k _ _ => by rw [latN_c, if_neg (by omega)]))
theorem latS_ok {s : AS} {w k : Nat} (ok : aOK s) : aOK (latS s w k) := by
  have e : ∀ c k', aC (latS s w k) c k' = if k' = 3 ∧ c < aN s ∧ aC s c 2 = w ∧ aC s c 4 = 0 then min 83 (aC s c 3 + k) else aC s c k' := fun _ _ => rfl
  have hU : aU (latS s w k) (aN s) = aU s (aN s) := aU_congr _ fun c _ => by rw [e, if_neg (by omega)]
  have hP : ∀ v, v < 2 → okP (latS s w k) v := fun v hv => by
    obtain ⟨h0, h1, h2, h3, h4⟩ := ok.p hv
    exact ⟨h0, h1, h2, by rw [show aN (latS s w k) = aN s from rfl, hU]; exact h3, h4⟩
  refine ⟨ok.1, ok.2.1, hP 0 (by decide), hP 1 (by decide), fun c hc => ?_⟩
  have hc : c < aN s := hc
  obtain ⟨h0, h1, h2, h3, h4⟩ := ok.c (c := c) hc
  unfold okC
  simp only [e]
  refine ⟨by rw [if_neg (by omega)]; exact h0, by rw [if_neg (by omega)]; exact h1, by rw [if_neg (by omega)]; exact h2, ?_, by rw [if_neg (by omega)]; exact h4⟩
  split <;> omega
