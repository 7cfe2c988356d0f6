section
/-! the marriage, a call of both -/
theorem op_marriage {σ : GS} (ok : GOK σ) : OP 58 167 [] σ := by
  have hL := ok.2.2.2.2.1
  have hT := ok.2.2.2.2.2.1
  obtain ⟨t, ht⟩ : ∃ t, t = tl (gT σ) (gL σ) := ⟨_, rfl⟩
  obtain ⟨σ1, hσ1⟩ : ∃ x, x = letS σ 0 (gT σ) := ⟨_, rfl⟩
  have ok1 : GOK σ1 := by
    rw [hσ1]
    exact ⟨ok.1, ok.2.1, ok.2.2.1, ok.2.2.2.1, Nat.zero_le _, fun i (hi : i < 0) => absurd hi (by omega), ok.2.2.2.2.2.2⟩
  have clrC : ∀ μ1, CI μ1 σ → CI (qsi μ1 (0, 0, 0) 7 (zI 0)) σ1 ∧ Fr isCl μ1 (qsi μ1 (0, 0, 0) 7 (zI 0)) := fun μ1 h => by
    rw [hσ1]
    exact h.hd (Fr.si (Or.inl rfl)) (by rw [qsi_get, if_neg (by simp)]) (by rw [qsi_get, if_neg (by simp)]) rfl (by rw [qsi_ne (by simp)]) ⟨qsi_self _ _ _ _, fun i hi => absurd hi (by omega)⟩ (h.1.2.2.2.2.1.c (by rw [qsi_get, if_neg (by simp)]) (by rw [qsi_ne (by simp)]))
  have clrM : ∀ μ1, MI μ1 σ → MI (qsi μ1 (24, 0, 0) 17 (zI 0)) σ1 ∧ Fr isMd μ1 (qsi μ1 (24, 0, 0) 17 (zI 0)) := fun μ1 h => by
    rw [hσ1]
    exact h.hd ok (Fr.si (Or.inl rfl)) (fun k a _ => by rw [qsi_get, if_neg (fun z => a z.2)]) ⟨qsi_self _ _ _ _, fun i hi => absurd hi (by omega)⟩ (h.2.2.2.2.1.c (by rw [qsi_get, if_neg (by simp)]) (by rw [qsi_ne (by simp)]))
  have g0 : gS σ1 = gS σ := by rw [hσ1]; rfl
  by_cases h0 : gL σ = 0
  · refine ⟨qI (zI (-1000)), σ1, fun d μ h => ?_, fun d μ h => ?_, ok1⟩
    · obtain ⟨c1, c2⟩ := clrC μ h
      refine ⟨_, ?_, c1, c2⟩
      rw [qe_J_marriage, qb_J_marriage_0, qe_J_firstMisplaced, qb_J_firstMisplaced_0, h.1.2.2.2.1.1, h0, if_pos (show zI ((0 : Nat) : Int) = 0 from zI0), qbI_some]
      simp only [zI_of]
      rw [if_neg (by decide), zI_sub, qb_J_marriage_21, if_pos (by decide), qb_J_marriage_47, zI_of]
      rfl
    · have tb : tl (gT σ) (gL σ) 0 = -1 := by unfold tl; rw [if_neg (by omega)]
      have hb : bad1 (tl (gT σ) (gL σ)) 0 = some 0 := bad1_0 (by rw [tb]; rfl)
      obtain ⟨μ1, r1, r2, r3, r4⟩ := c_M_statement (d + 25) (a := 0) (k := 0) (μ := qsi (qsi μ (24, 0, 0) 18 (zI 0)) (24, 0, 0) 19 (zI 0)) (h.2.2.2.1.c (by rw [qsi_get, if_neg (by simp), qsi_get, if_neg (by simp)]) (by rw [qsi_ne (by simp), qsi_ne (by simp)])) hL hT (by rw [qsi_get, if_neg (by simp), qsi_self]; rfl) (qsi_self _ _ _ _) (by decide) (by decide)
      have fp : FrP μ (qsi μ1 (24, 0, 0) 19 (zI 0)) := (FrP.tr (FrP.fl (FrP.fl (⟨fun _ _ => rfl, fun _ _ _ => rfl, rfl⟩ : FrP μ μ) (Or.inl rfl)) (Or.inr rfl)) r2.p).fl (Or.inr rfl)
      obtain ⟨c1, c2⟩ := h.rr ok fp.r (h.1.pa fp)
      obtain ⟨c3, c4⟩ := clrM _ c1
      refine ⟨_, ?_, c3, c2.tr c4⟩
      have e19 : μ1.1 (24, 0, 0) 19 = zI 0 := (r2.2.1 19 (by decide)).trans (qsi_self _ _ _ _)
      have e18 : μ1.1 (24, 0, 0) 18 = zI 0 := r3 0 hb
      rw [qe_M_marriage, qb_M_marriage_0]
      simp only [zI_of]
      rw [qb_M_marriage_12, if_neg (by decide)]
      have e34 : ∀ X Y : QR, (if (qsi (qsi μ (24, 0, 0) 18 (zI 0)) (24, 0, 0) 19 (zI 0)).1 (24, 0, 0) 18 < (qsi (qsi μ (24, 0, 0) 18 (zI 0)) (24, 0, 0) 19 (zI 0)).1 (24, 0, 0) 17 then X else if (qsi (qsi μ (24, 0, 0) 18 (zI 0)) (24, 0, 0) 19 (zI 0)).1 (24, 0, 0) 19 = 0 then X else Y) = X := fun X Y => by
        rw [qsi_self, if_pos (show zI 0 = 0 from zI0)]
        split <;> rfl
      rw [e34, qb_M_marriage_34, r1, qbI_some, hb, if_pos (show qB (Option.isNone (some 0)) = 0 from zI0), e19, qb_M_marriage_52, qb_M_marriage_53, zI_of, zI_add, Int.add_zero, qb_M_marriage_12, if_pos (show qB (Option.isNone (some 0)) = 0 from zI0), qb_M_marriage_60, if_pos (show qB (Option.isNone (some 0)) = 0 from zI0), qsi_get, if_neg (by simp), qsi_get, if_neg (by simp), e18]
      simp only [zI_of]
      rw [zI_sub]
      rfl
  · have base : ∀ d μ, MI μ σ → ∃ μ2, FrP μ μ2 ∧ (∀ j, badF t (gL σ) (gL σ) 0 = some j → qcall qprogs (d + 30) 167 [qR (24, 0, 0)] μ = qx (d + 29) qc_M_marriage 60 [some (qR (24, 0, 0)), some (qI (zI 0)), none] [] μ2 ∧ μ2.1 (24, 0, 0) 18 = zI (j : Nat)) ∧ (badF t (gL σ) (gL σ) 0 = none → qcall qprogs (d + 30) 167 [qR (24, 0, 0)] μ = qx (d + 29) qc_M_marriage 60 [some (qR (24, 0, 0)), some (qI (zI 1)), none] [] μ2 ∧ μ2.1 (24, 0, 0) 19 = zI (cnF t (gL σ) (gL σ) 0 : Nat) ∧ PT μ2 t (cnF t (gL σ) (gL σ) 0)) := fun d μ h => by
      obtain ⟨μ2, y1, y2, y3⟩ := m_reads (d + 24) h ok (gL σ) 0 (qsi (qsi μ (24, 0, 0) 18 (zI 0)) (24, 0, 0) 19 (zI 0)) (by omega) (Nat.zero_le _) (fun _ => by omega) (FrP.fl (FrP.fl (⟨fun _ _ => rfl, fun _ _ _ => rfl, rfl⟩ : FrP μ μ) (Or.inl rfl)) (Or.inr rfl)) (by rw [qsi_get, if_neg (by simp), qsi_self]; rfl) (qsi_self _ _ _ _) (fun i hi => absurd hi (by omega))
      rw [← ht] at y2 y3
      have e : qcall qprogs (d + 30) 167 [qR (24, 0, 0)] μ = qx (d + 29) qc_M_marriage 12 [some (qR (24, 0, 0)), some (qI (zI 1)), none] [] (qsi (qsi μ (24, 0, 0) 18 (zI 0)) (24, 0, 0) 19 (zI 0)) := by
        rw [qe_M_marriage, qb_M_marriage_0]
        simp only [zI_of]
      refine ⟨μ2, y1, fun j hj => ?_, fun hn => ?_⟩
      · obtain ⟨w1, w2⟩ := y2 j hj
        exact ⟨e.trans w1, w2⟩
      · obtain ⟨w1, w2, w3⟩ := y3 hn
        rw [Nat.zero_add] at w2 w3
        exact ⟨e.trans w1, w2, w3⟩
    cases hb : badF t (gL σ) (gL σ) 0 with
    | some j =>
      have jb : j ≤ 96 + 6 := by
        have : ∀ f a x, a ≤ gL σ → badF t (gL σ) f a = some x → x ≤ gL σ + 6 := by
          intro f
          induction f with
          | zero => intro a x _ hx; cases hx
          | succ f ih =>
            intro a x ha hx
            by_cases q : gL σ ≤ a
            · rw [badF_e q] at hx; cases hx
            · cases h1 : bad1 t a with
              | some y =>
                rw [badF_b q h1] at hx
                cases hx
                have dl := dgs_le (t a)
                by_cases z0 : dgs (t a) = 0
                · rw [bad1_0 z0] at h1; cases h1; omega
                · cases hf : ffr (nod t) (dgs (t a)) (a + 1) with
                  | some w =>
                    rw [bad1_j z0 hf] at h1
                    cases h1
                    have := ffr_some _ _ hf
                    omega
                  | none =>
                    rw [bad1_e z0 hf] at h1
                    split at h1
                    · cases h1
                    · cases h1; omega
              | none =>
                rw [badF_s q h1] at hx
                rw [ht] at h1
                have := (nxs_L h1).1
                rw [← ht] at this
                exact ih _ x this hx
        have := this (gL σ) 0 j (Nat.zero_le _) hb
        omega
      refine ⟨qI (zI (-1000 - (j : Int))), σ1, fun d μ h => ?_, fun d μ h => ?_, ok1⟩
      · obtain ⟨c1, c2⟩ := clrC μ h
        refine ⟨_, ?_, c1, c2⟩
        rw [qe_J_marriage, qb_J_marriage_0, c_J_firstMisplaced (d + 27) h.1.2.2.2.1 hL hT (by omega), qbI_some, ← ht, hb]
        simp only [zI_of]
        rw [show onI (some j) = (j : Int) from rfl, if_neg (by rw [zI_0, zI_lt (by omega)]; omega), zI_sub, qb_J_marriage_21, if_pos (by rw [zI_0, zI_le (by omega)]; omega), qb_J_marriage_47, zI_of]
      · obtain ⟨μ2, f2, y2, -⟩ := base d μ h
        obtain ⟨w1, w2⟩ := y2 j hb
        obtain ⟨c1, c2⟩ := h.rr ok f2.r (h.1.pa f2)
        obtain ⟨c3, c4⟩ := clrM _ c1
        refine ⟨_, ?_, c3, c2.tr c4⟩
        rw [w1, qb_M_marriage_60, if_pos zI0, qsi_get, if_neg (by simp), w2]
        simp only [zI_of]
        rw [zI_sub]
    | none =>
      have cb := cnF_le (t := t) (L := gL σ) (gL σ) 0
      have c1b : 1 ≤ cnF t (gL σ) (gL σ) 0 := by
        have : cnF t (gL σ) (gL σ - 1 + 1) 0 = _ := cnF_s (by omega)
        rw [show gL σ - 1 + 1 = gL σ by omega] at this
        omega
      have hbt := hb
      rw [ht] at hbt
      -- the reference's second reading
      have second : ∀ (d : Nat) (μ μk : QM), (∀ j, j ≠ 11 → j ≠ 12 → j ≠ 18 → j ≠ 19 → True) → μk.1 (24, 0, 0) 19 = zI (cnF t (gL σ) (gL σ) 0 : Nat) → PT μk t (cnF t (gL σ) (gL σ) 0) → RM μk (gS σ) →
          ∀ f k s (μ1 : QM), gL σ ≤ sta t k + f → badF t (gL σ) f (sta t k) = none → k + cnF t (gL σ) f (sta t k) = cnF t (gL σ) (gL σ) 0 → aOK s → FrS μk μ1 → RM μ1 s →
          ∃ μ2, FrS μk μ2 ∧ (∀ s', exF t (gL σ) f (sta t k) s = .inl s' → RM μ2 s' ∧ qx (d + 29) qc_M_marriage 86 [some (qR (24, 0, 0)), none, some (qI (zI (k : Nat)))] [] μ1 = qx (d + 29) qc_M_marriage 128 [some (qR (24, 0, 0)), none, none] [] μ2) ∧ (∀ x, exF t (gL σ) f (sta t k) s = .inr x → ∃ k', k' < cnF t (gL σ) (gL σ) 0 ∧ sta t k' = x ∧ qx (d + 29) qc_M_marriage 86 [some (qR (24, 0, 0)), none, some (qI (zI (k : Nat)))] [] μ1 = qx (d + 29) qc_M_marriage 105 [some (qR (24, 0, 0)), none, some (qI (zI (k' : Nat)))] [] μ2) := by
        intro d μ μk _ k19 hP hR f
        induction f with
        | zero =>
          intro k s μ1 hf hbd hk oks hF h1
          refine ⟨μ1, hF, fun s' hs => ?_, fun x hx => by cases hx⟩
          cases hs
          refine ⟨h1, ?_⟩
          rw [qb_M_marriage_86, show μ1.1 (24, 0, 0) 19 = _ from (hF.2 19 (by decide) (by decide)).trans k19, if_pos (by rw [zI_le (by omega)]; have : cnF t (gL σ) 0 (sta t k) = 0 := rfl; omega)]
        | succ f ih =>
          intro k s μ1 hf hbd hk oks hF h1
          by_cases q : gL σ ≤ sta t k
          · rw [cnF_e q] at hk
            rw [exF_e q]
            refine ⟨μ1, hF, fun s' hs => ?_, fun x hx => by cases hx⟩
            cases hs
            refine ⟨h1, ?_⟩
            rw [qb_M_marriage_86, show μ1.1 (24, 0, 0) 19 = _ from (hF.2 19 (by decide) (by decide)).trans k19, if_pos (by rw [zI_le (by omega)]; omega)]
          · cases hb1 : bad1 t (sta t k) with
            | some j => rw [badF_b q hb1] at hbd; cases hbd
            | none =>
              rw [badF_s q hb1] at hbd
              rw [cnF_s q] at hk
              have s2 := sta_le (t := t) k
              obtain ⟨p1, p2, p3⟩ := (hP.congr (hF.1.1 _ (by unfold isS; simp)) (hF.1.1 _ (by unfold isS; simp)) (hF.1.1 _ (by unfold isS; simp))) k (by omega)
              obtain ⟨μ3, x1, x2, x3⟩ := c_M_comes (d + 23) h1 oks (by omega) p1 p3 hb1
              have e86 : qx (d + 29) qc_M_marriage 86 [some (qR (24, 0, 0)), none, some (qI (zI (k : Nat)))] [] μ1 = if qB (Option.isSome (exe t s (sta t k))) = 0 then qx (d + 29) qc_M_marriage 105 [some (qR (24, 0, 0)), none, some (qI (zI (k : Nat)))] [] μ3 else qx (d + 29) qc_M_marriage 122 [some (qR (24, 0, 0)), none, some (qI (zI (k : Nat)))] [] μ3 := by
                rw [qb_M_marriage_86, show μ1.1 (24, 0, 0) 19 = _ from (hF.2 19 (by decide) (by decide)).trans k19, if_neg (by rw [zI_le (by omega)]; omega), x1, qbI_some]
              cases hx : exe t s (sta t k) with
              | none =>
                rw [exF_n q hx]
                refine ⟨μ3, hF.tr x2, fun s' hs => (by cases hs), fun x hx2 => ?_⟩
                cases hx2
                exact ⟨k, by omega, rfl, by rw [e86, hx]; exact if_pos zI0⟩
              | some s1 =>
                rw [exF_s q hx]
                obtain ⟨μ4, y1, y2, y3⟩ := ih (k + 1) s1 μ3 (by
                  show gL σ ≤ nxs t (sta t k) + f
                  unfold nxs
                  omega) hbd (by show k + 1 + cnF t (gL σ) f (nxs t (sta t k)) = _; omega) (exe_ok oks hb1 hx) (hF.tr x2) (x3 s1 hx)
                have e122 : qx (d + 29) qc_M_marriage 86 [some (qR (24, 0, 0)), none, some (qI (zI (k : Nat)))] [] μ1 = qx (d + 29) qc_M_marriage 86 [some (qR (24, 0, 0)), none, some (qI (zI ((k + 1 : Nat) : Int)))] [] μ3 := by
                  rw [e86, hx, if_neg (show ¬ qB (Option.isSome (some s1)) = 0 from (by decide : ¬ qB true = 0)), qb_M_marriage_122, zI_of, zI_add]
                  rfl
                refine ⟨μ4, y1, fun s' hs => ?_, fun x hx2 => ?_⟩
                · obtain ⟨w1, w2⟩ := y2 s' hs
                  exact ⟨w1, e122.trans w2⟩
                · obtain ⟨k', w1, w2, w3⟩ := y3 x hx2
                  exact ⟨k', w1, w2, e122.trans w3⟩
      -- the reference up to there
      have upto : ∀ d μ, MI μ σ → ∃ μ2, qcall qprogs (d + 30) 167 [qR (24, 0, 0)] μ = qx (d + 29) qc_M_marriage 78 [some (qR (24, 0, 0)), none, none] [] μ2 ∧ MI μ2 σ1 ∧ Fr isMd μ μ2 ∧ μ2.1 (24, 0, 0) 19 = zI (cnF t (gL σ) (gL σ) 0 : Nat) ∧ PT μ2 t (cnF t (gL σ) (gL σ) 0) := fun d μ h => by
        obtain ⟨μ2, f2, -, y3⟩ := base d μ h
        obtain ⟨w1, w2, w3⟩ := y3 hb
        obtain ⟨c1, c2⟩ := h.rr ok f2.r (h.1.pa f2)
        obtain ⟨c3, c4⟩ := clrM _ c1
        refine ⟨_, ?_, c3, c2.tr c4, by rw [qsi_get, if_neg (by simp)]; exact w2, w3.congr (qsi_ne (by simp)) (qsi_ne (by simp)) (qsi_ne (by simp))⟩
        rw [w1, qb_M_marriage_60, if_neg (by decide), zI_of]
      cases hx : exF t (gL σ) (gL σ) 0 (gS σ) with
      | inr x =>
        have xb := exF_r _ _ hx
        refine ⟨qI (zI (-2000 - (x : Int))), σ1, fun d μ h => ?_, fun d μ h => ?_, ok1⟩
        · obtain ⟨μ1, r1, r2, r3, r4⟩ := c_J_tellStatements (d + 22) h ok hbt
          obtain ⟨c1, c2⟩ := clrC μ1 r2
          refine ⟨_, ?_, c1, r3.tr c2⟩
          rw [← ht] at r1
          unfold tsv at r1
          rw [hx] at r1
          dsimp only at r1
          rw [qe_J_marriage, qb_J_marriage_0, c_J_firstMisplaced (d + 27) h.1.2.2.2.1 hL hT (by omega), qbI_some, hbt, if_pos (by decide), qb_J_marriage_17, r1, qbI_some, qb_J_marriage_21, if_pos (by rw [zI_0, zI_le (by omega)]; omega), qb_J_marriage_47, zI_of]
        · obtain ⟨μ2, w1, w2, w3, w4, w5⟩ := upto d μ h
          obtain ⟨μk, k1, k2, k3, k4, k5, k6⟩ := c_M_keep (d + 27) (k := 1) w2.1 ok1.1.2.1 (by decide)
          have nk : ∀ b, b ≠ ((24, 0, 0) : QA) → b ≠ (40, 0, 0) → μk.1 b = μ2.1 b := fun b b1 b2 => k4.1 b (by simp only [not_or]; exact ⟨b1, b2⟩)
          have rk : FrR μ2 μk := ⟨k4.mono fun a ha => by
            rcases ha with e | e
            · exact Or.inl e
            · exact Or.inr (Or.inr (Or.inl (by rw [e]; decide))), fun j hj => k5 j (by omega) (by omega), fun y hy => k6 y (by omega)⟩
          obtain ⟨μ3, s1, -, s3⟩ := second d μ μk (fun _ _ _ _ _ => trivial) ((k5 19 (by decide) (by decide)).trans w4) (w5.congr (nk _ (by simp) (by simp)) (nk _ (by simp) (by simp)) (nk _ (by simp) (by simp))) (by rw [← g0]; exact k2) (gL σ) 0 (gS σ) μk (by show gL σ ≤ 0 + gL σ; omega) hb (by show 0 + cnF _ _ _ 0 = _; omega) ok.1 FrS.rf (by rw [← g0]; exact k2)
          obtain ⟨k', z1, z2, z3⟩ := s3 x hx
          obtain ⟨μ4, v1, v2, v3, v4⟩ := m_putb1 (d + 27) w2 ok1 (rk.tr s1.r) (k3.s s1)
          refine ⟨μ4, ?_, v2, w3.tr v3⟩
          have e38 : μ4.1 (38, 0, 0) k' = zI (x : Nat) := by
            obtain ⟨μ4', v1', v2', v3', v4'⟩ := c_M_putb (d + 27) (k3.s s1) ok1.1.2.1 (by decide)
            have : μ4 = μ4' := by
              have := v1.symm.trans v1'
              injection this with this
              injection this
            rw [this, v3'.1 _ (by simp), s1.1.1 _ (by unfold isS; simp), nk _ (by simp) (by simp)]
            have := (w5 k' z1).2.1
            rw [z2] at this
            exact this
          have := sta_le (t := t) k'
          rw [w1, qb_M_marriage_78]
          simp only [zI_of]
          rw [show qcall qprogs (d + 29) 170 [qR (24, 0, 0), qI (zI 1), qI (zI 1)] μ2 = _ from k1, qbV_some]
          refine (show _ = _ from z3).trans ?_
          rw [qb_M_marriage_105]
          simp only [zI_of]
          rw [v1, qbV_some, zI_oob (n := 48) (by omega), cond_false, show qix (zI (k' : Nat)) = k' from zI_ixN (by omega), e38, zI_sub]
      | inl s' =>
        have oks := exF_ok (gL σ) 0 ok.1 hb hx
        refine ⟨qI (zI (cnF t (gL σ) (gL σ) 0 : Nat)), chS σ1 s' 0, fun d μ h => ?_, fun d μ h => ?_, ok1.ch oks (Nat.zero_le _)⟩
        · obtain ⟨μ1, r1, r2, r3, r4⟩ := c_J_tellStatements (d + 22) h ok hbt
          obtain ⟨c1, c2⟩ := clrC μ1 r2
          rw [← ht] at r1 r4
          have ra1 : RA (qsi μ1 (0, 0, 0) 7 (zI 0)) 1 s' := (r4 s' hx).hd (Fr.si (Or.inl rfl))
          unfold tsv at r1
          rw [hx] at r1
          obtain ⟨μ2, x1, x2, x3⟩ := c_Affair_copyFrom (d + 27) (j := 0) (j' := 1) (by decide) (by decide) (by decide) ra1 oks
          have hd : Fr isHd μ2 (qsi μ2 (0, 0, 0) 5 (zI 0)) := Fr.si (Or.inl rfl)
          have fin := c1.ch (s := s') (n := 0) (μ' := qsi μ2 (0, 0, 0) 5 (zI 0)) (Nat.zero_le _) ((x2.mono fun a ha => Or.inl ha).si' (Or.inr rfl)) (x3.hd hd) (qsi_self _ _ _ _) (fun k hk => by rw [qsi_get, if_neg (fun z => hk z.2), x2.1 _ (isA_no (Or.inl rfl))])
          refine ⟨_, ?_, fin.1, (r3.tr c2).tr fin.2⟩
          rw [qe_J_marriage, qb_J_marriage_0, c_J_firstMisplaced (d + 27) h.1.2.2.2.1 hL hT (by omega), qbI_some, hbt, if_pos (by decide), qb_J_marriage_17, r1, qbI_some, qb_J_marriage_21]
          dsimp only
          rw [Nat.zero_add, if_neg (by rw [zI_0, zI_le (by omega)]; omega)]
          simp only [zI_of]
          rw [x1, qbV_some, qb_J_marriage_47]
        · obtain ⟨μ2, w1, w2, w3, w4, w5⟩ := upto d μ h
          obtain ⟨μk, k1, k2, k3, k4, k5, k6⟩ := c_M_keep (d + 27) (k := 1) w2.1 ok1.1.2.1 (by decide)
          have nk : ∀ b, b ≠ ((24, 0, 0) : QA) → b ≠ (40, 0, 0) → μk.1 b = μ2.1 b := fun b b1 b2 => k4.1 b (by simp only [not_or]; exact ⟨b1, b2⟩)
          obtain ⟨μ3, s1, s2, -⟩ := second d μ μk (fun _ _ _ _ _ => trivial) ((k5 19 (by decide) (by decide)).trans w4) (w5.congr (nk _ (by simp) (by simp)) (nk _ (by simp) (by simp)) (nk _ (by simp) (by simp))) (by rw [← g0]; exact k2) (gL σ) 0 (gS σ) μk (by show gL σ ≤ 0 + gL σ; omega) hb (by show 0 + cnF _ _ _ 0 = _; omega) ok.1 FrS.rf (by rw [← g0]; exact k2)
          obtain ⟨z1, z2⟩ := s2 s' hx
          have rk : FrR μ2 μk := ⟨k4.mono fun a ha => by
            rcases ha with e | e
            · exact Or.inl e
            · exact Or.inr (Or.inr (Or.inl (by rw [e]; decide))), fun j hj => k5 j (by omega) (by omega), fun y hy => k6 y (by omega)⟩
          have fr := rk.tr s1.r
          have fin := w2.ch ok1 (s := s') (n := 0) (μ' := qsi μ3 (24, 0, 0) 24 (zI 0)) (Nat.zero_le _) (Fr.si' fr.1 (Or.inl rfl)) (z1.fld (by decide)) (qsi_self _ _ _ _) (fun k hk => by rw [qsi_get, if_neg (by omega)]; exact fr.2.1 k (by omega)) (fun y hy => by rw [qsi_ne (by simp)]; exact fr.2.2 y hy)
          refine ⟨_, ?_, fin.1, w3.tr fin.2⟩
          rw [w1, qb_M_marriage_78]
          simp only [zI_of]
          rw [show qcall qprogs (d + 29) 170 [qR (24, 0, 0), qI (zI 1), qI (zI 1)] μ2 = _ from k1, qbV_some]
          refine (show _ = _ from z2).trans ?_
          rw [qb_M_marriage_128]
          simp only [zI_of]
          rw [qsi_get, if_neg (by simp), s1.2 19 (by decide) (by decide), k5 19 (by decide) (by decide), w4]
end
