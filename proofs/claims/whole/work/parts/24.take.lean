/-! a plan takes causes -/
theorem PD.congr {μ μ' : QM} {p m : Nat} {D : Nat → Nat} (h : PD μ p m D) (e1 : μ'.1 (5, p, 0) 1 = μ.1 (5, p, 0) 1) (e2 : μ'.1 (7, p, 0) = μ.1 (7, p, 0)) : PD μ' p m D := ⟨h.1, by rw [e1]; exact h.2.1, fun i hi => by rw [e2]; exact h.2.2 i hi⟩
theorem PN.congr {μ μ' : QM} {p : Nat} (h : PN μ p) (e : ∀ c, μ'.1 (6, p, c) 0 = μ.1 (6, p, c) 0) : PN μ' p := fun c hc => by rw [e]; exact h c hc
theorem PQ.congr {μ μ' : QM} {p : Nat} {Q : List Nat} (h : PQ μ p Q) (e1 : μ'.1 (5, p, 0) 4 = μ.1 (5, p, 0) 4) (e2 : μ'.2.2 (9, p, 0) = μ.2.2 (9, p, 0)) : PQ μ' p Q := ⟨h.1, by rw [e1]; exact h.2.1, fun i hi => by rw [e2]; exact h.2.2 i hi⟩
def PF (μ : QM) (p : Nat) (s : AS) (m : Nat) (D : Nat → Nat) (x : Nat) : Prop := μ.1 (6, p, x) 1 = zI (aW s x : Nat) ∧ μ.1 (6, p, x) 2 = zI (aT s x : Nat) ∧ μ.1 (6, p, x) 3 = zI (gdB s m D x : Nat)
theorem isA_pl {j p : Nat} (a : QA) (h1 : isA j a) (h2 : isPl p a) : False := by rcases h1.1 with e | e | e <;> have := h2.1 <;> omega
theorem RA.pl {μ μ' : QM} {j p : Nat} {s : AS} (h : RA μ j s) (hF : Fr (isPl p) μ μ') : RA μ' j s := h.fr hF fun a h1 h2 => isA_pl a h1 h2
theorem b12 {S c : Nat} (hS : S < 4096) (h : S.testBit c = true) : c < 12 := by
  by_cases e : c < 12
  · exact e
  · rw [Nat.testBit_lt_two_pow (Nat.lt_of_lt_of_le hS (show 2 ^ 12 ≤ 2 ^ c from Nat.pow_le_pow_right (by decide) (by omega)))] at h
    cases h
theorem c_Plan_takeCauses (d : Nat) {p j m S : Nat} {D : Nat → Nat} {s : AS} {μ : QM} (hp : p < 2) (hj : j < 11) (h : RA μ j s) (ok : aOK s) (hS : S < 4096) (hSn : ∀ c, S.testBit c = true → c < aN s) (hD : PD μ p m D) (hN : PN μ p) :
    ∃ μ' Q, qcall qprogs (d + 3) 29 [qR (5, p, 0), qR (2, j, 0), qI (zI (S : Nat))] μ = some (none, μ') ∧ Fr (isPl p) μ μ' ∧ PD μ' p m D ∧ PN μ' p ∧ PC μ' p s m D S ∧ PQ μ' p Q ∧ Qok (aW s) S Q := by
  have h12 := ok.2.1
  have L : ∀ k c μ1 Q, c + k = 12 → Fr (isPl p) μ μ1 → PD μ1 p m D → PN μ1 p → PQ μ1 p Q → Q.length ≤ c → μ1.1 (5, p, 0) 5 = zI (mk S.testBit c : Nat) → (∀ x, x < c → S.testBit x = true → PF μ1 p s m D x) → Q.Nodup → (∀ x, x ∈ Q ↔ x < c ∧ S.testBit x = true) → Q.Pairwise (Rk (aW s)) →
      ∃ μ' Q, qx (d + 2) qc_Plan_takeCauses 12 [some (qR (5, p, 0)), some (qR (2, j, 0)), some (qI (zI (S : Nat))), some (qI (zI (c : Nat))), none, none] [] μ1 = some (none, μ') ∧ Fr (isPl p) μ μ' ∧ PD μ' p m D ∧ PN μ' p ∧ PC μ' p s m D S ∧ PQ μ' p Q ∧ Qok (aW s) S Q := by
    intro k
    induction k with
    | zero =>
      intro c μ1 Q hc fr hD hN hQ hl ha hF hnd hmem hpw
      rw [qb_Plan_takeCauses_12]
      simp (disch := omega) only [zI_of, zI_0, zI_1, zI_add, zI_sub, zI_mul, zI_neg, zI_lt, zI_le, zI_eq, zI_rem, zI_oob, zI_ixN, zI_ix, zI_ite, zI10, zI01, Int.toNat_natCast, cond_false, cond_true, q01_0, q01_1, q01_0z, q01_1z, qB_if, qB_ifz, qB_ret, qB_retz, qbI_some, qbV_some, qbL_some, qbR_some, qbN_some, qbN_none, true_or, or_true, false_or, or_false, if_true, if_false, Int.reduceEq, Int.reduceLT, Int.reduceLE, Int.reduceNeg, qb_Plan_takeCauses_104]
      rw [if_pos (by omega)]
      have e : mk S.testBit c = S := by
        apply Nat.eq_of_testBit_eq
        intro i
        rw [mk_bit]
        cases hb : S.testBit i
        · simp
        · have := b12 hS hb
          simp; omega
      rw [e] at ha
      exact ⟨μ1, Q, rfl, fr, hD, hN, ⟨hS, ha, fun x hx => ⟨b12 hS hx, hF x (by have := b12 hS hx; omega) hx⟩⟩, hQ, hnd, fun x => ⟨fun hx => ((hmem x).mp hx).2, fun hx => (hmem x).mpr ⟨by have := b12 hS hx; omega, hx⟩⟩, hpw⟩
    | succ k ih =>
      intro c μ1 Q hc fr hD hN hQ hl ha hF hnd hmem hpw
      have hR : RA μ1 j s := h.pl fr
      have cc : c < 12 := by omega
      have skip : S.testBit c = false → ∃ μ' Q, qx (d + 2) qc_Plan_takeCauses 98 [some (qR (5, p, 0)), some (qR (2, j, 0)), some (qI (zI (S : Nat))), some (qI (zI (c : Nat))), none, none] [] μ1 = some (none, μ') ∧ Fr (isPl p) μ μ' ∧ PD μ' p m D ∧ PN μ' p ∧ PC μ' p s m D S ∧ PQ μ' p Q ∧ Qok (aW s) S Q := fun hb => by
        rw [qb_Plan_takeCauses_98]
        simp (disch := omega) only [zI_of, zI_0, zI_1, zI_add, zI_sub, zI_mul, zI_neg, zI_lt, zI_le, zI_eq, zI_rem, zI_oob, zI_ixN, zI_ix, zI_ite, zI10, zI01, Int.toNat_natCast, cond_false, cond_true, q01_0, q01_1, q01_0z, q01_1z, qB_if, qB_ifz, qB_ret, qB_retz, qbI_some, qbV_some, qbL_some, qbR_some, qbN_some, qbN_none, true_or, or_true, false_or, or_false, if_true, if_false, Int.reduceEq, Int.reduceLT, Int.reduceLE, Int.reduceNeg]
        refine ih (c + 1) μ1 Q (by omega) fr hD hN hQ (by omega) (by rw [mk_f hb]; exact ha) (fun x hx hx2 => ?_) hnd (fun x => ⟨fun hx => ?_, fun hx => ?_⟩) hpw
        · by_cases e : x = c
          · subst e; rw [hb] at hx2; cases hx2
          · exact hF x (by omega) hx2
        · have := (hmem x).mp hx
          exact ⟨by omega, this.2⟩
        · by_cases e : x = c
          · subst e; rw [hb] at hx; cases hx.2
          · exact (hmem x).mpr ⟨by omega, hx.2⟩
      rw [qb_Plan_takeCauses_12]
      simp (disch := omega) only [zI_of, zI_0, zI_1, zI_add, zI_sub, zI_mul, zI_neg, zI_lt, zI_le, zI_eq, zI_rem, zI_oob, zI_ixN, zI_ix, zI_ite, zI10, zI01, Int.toNat_natCast, cond_false, cond_true, q01_0, q01_1, q01_0z, q01_1z, qB_if, qB_ifz, qB_ret, qB_retz, qbI_some, qbV_some, qbL_some, qbR_some, qbN_some, qbN_none, true_or, or_true, false_or, or_false, if_true, if_false, Int.reduceEq, Int.reduceLT, Int.reduceLE, Int.reduceNeg]
      rw [if_neg (by omega)]
      by_cases hcn : c < aN s
      · rw [c_Affair_causeAt (d + 1) hj hR ok hcn, qbN_some (qd1 hj cc)]
        simp (disch := omega) only [zI_of, zI_0, zI_1, zI_add, zI_sub, zI_mul, zI_neg, zI_lt, zI_le, zI_eq, zI_rem, zI_oob, zI_ixN, zI_ix, zI_ite, zI10, zI01, Int.toNat_natCast, cond_false, cond_true, q01_0, q01_1, q01_0z, q01_1z, qB_if, qB_ifz, qB_ret, qB_retz, qbI_some, qbV_some, qbL_some, qbR_some, qbN_some, qbN_none, true_or, or_true, false_or, or_false, if_true, if_false, Int.reduceEq, Int.reduceLT, Int.reduceLE, Int.reduceNeg, zI_31, zI_bit, zI_and, tb_if]
        cases hb : S.testBit c
        · exact skip hb
        · simp only [cond_true]
          rw [qb_Plan_takeCauses_41, zI_oob (n := 12) (by omega), cond_false, show qix (zI (c : Nat)) = c from zI_ixN (by omega), hR.w hcn]
          have fr1 : Fr (isPl p) μ1 (qsi μ1 (6, p, c) 1 (zI (aW s c : Nat))) := Fr.si (isPl_of (by decide))
          rw [c_Cause_lastDay (d + 1) hj (hR.pl fr1) ok hcn, qbI_some]
          have fr2 := fr1.tr (Fr.si (μ := qsi μ1 (6, p, c) 1 (zI (aW s c : Nat))) (a := (6, p, c)) (k := 2) (v := zI (aT s c : Nat)) (isPl_of (by decide)))
          rw [c_Plan_freshDaysOf d hp hj (hR.pl fr2) ok hcn (hD.congr (by rw [qsi_ne (by simp), qsi_ne (by simp)]) (by rw [qsi_ne (by simp), qsi_ne (by simp)])), qbI_some]
          have fr3 := fr2.tr (Fr.si (μ := qsi (qsi μ1 (6, p, c) 1 (zI (aW s c : Nat))) (6, p, c) 2 (zI (aT s c : Nat))) (a := (6, p, c)) (k := 3) (v := zI (gdB s m D c : Nat)) (isPl_of (by decide)))
          have e5 : (qsi (qsi (qsi μ1 (6, p, c) 1 (zI (aW s c : Nat))) (6, p, c) 2 (zI (aT s c : Nat))) (6, p, c) 3 (zI (gdB s m D c : Nat))).1 (5, p, 0) = μ1.1 (5, p, 0) := by rw [qsi_ne (by simp), qsi_ne (by simp), qsi_ne (by simp)]
          have e9 : ∀ x, x ≠ c → (qsi (qsi (qsi μ1 (6, p, c) 1 (zI (aW s c : Nat))) (6, p, c) 2 (zI (aT s c : Nat))) (6, p, c) 3 (zI (gdB s m D c : Nat))).1 (6, p, x) = μ1.1 (6, p, x) := fun x hx => by rw [qsi_ne (by simp [hx]), qsi_ne (by simp [hx]), qsi_ne (by simp [hx])]
          have e7 : (qsi (qsi (qsi μ1 (6, p, c) 1 (zI (aW s c : Nat))) (6, p, c) 2 (zI (aT s c : Nat))) (6, p, c) 3 (zI (gdB s m D c : Nat))).1 (7, p, 0) = μ1.1 (7, p, 0) := by rw [qsi_ne (by simp), qsi_ne (by simp), qsi_ne (by simp)]
          have e8 : (qsi (qsi (qsi μ1 (6, p, c) 1 (zI (aW s c : Nat))) (6, p, c) 2 (zI (aT s c : Nat))) (6, p, c) 3 (zI (gdB s m D c : Nat))).2.2 = μ1.2.2 := rfl
          have eN : (qsi (qsi (qsi μ1 (6, p, c) 1 (zI (aW s c : Nat))) (6, p, c) 2 (zI (aT s c : Nat))) (6, p, c) 3 (zI (gdB s m D c : Nat))).1 (6, p, c) 0 = μ1.1 (6, p, c) 0 := by rw [qsi_get, if_neg (by simp), qsi_get, if_neg (by simp), qsi_get, if_neg (by simp)]
          have eF : PF (qsi (qsi (qsi μ1 (6, p, c) 1 (zI (aW s c : Nat))) (6, p, c) 2 (zI (aT s c : Nat))) (6, p, c) 3 (zI (gdB s m D c : Nat))) p s m D c := ⟨by rw [qsi_get, if_neg (by simp), qsi_get, if_neg (by simp), qsi_self], by rw [qsi_get, if_neg (by simp), qsi_self], qsi_self _ _ _ _⟩
          generalize (qsi (qsi (qsi μ1 (6, p, c) 1 (zI (aW s c : Nat))) (6, p, c) 2 (zI (aT s c : Nat))) (6, p, c) 3 (zI (gdB s m D c : Nat))) = μ2 at *
          have lt := mk_lt S.testBit c
          have lt2 := p31 lt (by omega)
          rw [e5, ha, show (Int32.ofInt 1) <<< (zI (c : Nat) &&& 31) = zI ((2 ^ c : Nat) : Int) by rw [zI_of, zI_31, zI_bit (by omega)], zI_or, mk_or, ← mk_t hb]
          have e6 : ∀ a, a ≠ (5, p, 0) → (qsi μ2 (5, p, 0) 5 (zI (mk S.testBit (c + 1) : Nat))).1 a = μ2.1 a := fun a ha => qsi_ne ha
          have e6' : ∀ k, k ≠ 5 → (qsi μ2 (5, p, 0) 5 (zI (mk S.testBit (c + 1) : Nat))).1 (5, p, 0) k = μ1.1 (5, p, 0) k := fun k hk => by rw [qsi_get, if_neg (by simp [hk]), e5]
          have e6s := qsi_self μ2 (5, p, 0) 5 (zI (mk S.testBit (c + 1) : Nat))
          have e6r : (qsi μ2 (5, p, 0) 5 (zI (mk S.testBit (c + 1) : Nat))).2.2 = μ1.2.2 := e8
          have fr4 : Fr (isPl p) μ1 (qsi μ2 (5, p, 0) 5 (zI (mk S.testBit (c + 1) : Nat))) := fr3.tr (Fr.si (isPl_of (by decide)))
          generalize (qsi μ2 (5, p, 0) 5 (zI (mk S.testBit (c + 1) : Nat))) = μ3 at *
          obtain ⟨μ4, A, B, r1, r2, r3, r4, r5, r6, r7⟩ := c_Plan_sortIn (d + 1) (f := aW s) hp cc (hQ.congr (e6' 4 (by decide)) (by rw [e6r])) (by omega) (fun x hx => by
            obtain ⟨x1, x2⟩ := (hmem x).mp hx
            exact ⟨x1, by rw [e6 _ (by simp), e9 x (by omega)]; exact (hF x x1 x2).1⟩) (by rw [e6 _ (by simp)]; exact eF.1) (fun x hx => by have := ok.w (c := x) (by omega); omega) hpw
          rw [r1, qbV_some, qb_Plan_takeCauses_98]
          simp (disch := omega) only [zI_of, zI_0, zI_1, zI_add, zI_sub, zI_mul, zI_neg, zI_lt, zI_le, zI_eq, zI_rem, zI_oob, zI_ixN, zI_ix, zI_ite, zI10, zI01, Int.toNat_natCast, cond_false, cond_true, q01_0, q01_1, q01_0z, q01_1z, qB_if, qB_ifz, qB_ret, qB_retz, qbI_some, qbV_some, qbL_some, qbR_some, qbN_some, qbN_none, true_or, or_true, false_or, or_false, if_true, if_false, Int.reduceEq, Int.reduceLT, Int.reduceLE, Int.reduceNeg]
          refine ih (c + 1) μ4 (A ++ c :: B) (by omega) (fr.tr (fr4.tr r2)) (hD.congr (by rw [r4 _ (by decide), e6' _ (by decide)]) (by rw [r3 _ (by simp), e6 _ (by simp), e7])) (hN.congr fun x => ?_) r6 (by rw [r5] at hl; simp at hl ⊢; omega) (by rw [r4 _ (by decide), e6s]) (fun x hx hx2 => ?_) ?_ (fun x => ?_) r7
          · rw [r3 _ (by simp), e6 _ (by simp)]
            by_cases e : x = c
            · subst e; exact eN
            · rw [e9 x e]
          · unfold PF
            rw [r3 _ (by simp), e6 _ (by simp)]
            by_cases e : x = c
            · subst e; exact eF
            · rw [e9 x e]; exact hF x (by omega) hx2
          · rw [r5] at hnd hmem
            have hcm : c ∉ A ++ B := fun hx => by have := ((hmem c).mp hx).1; omega
            rw [List.mem_append, not_or] at hcm
            rw [List.nodup_append] at hnd ⊢
            refine ⟨hnd.1, List.nodup_cons.mpr ⟨hcm.2, hnd.2.1⟩, fun a ha2 b hb2 => ?_⟩
            rcases List.mem_cons.mp hb2 with e2 | hb2
            · exact fun e => hcm.1 (by rw [← e2, ← e]; exact ha2)
            · exact hnd.2.2 a ha2 b hb2
          · have m1 := hmem x
            rw [r5, List.mem_append] at m1
            rw [List.mem_append, List.mem_cons]
            by_cases e : x = c
            · subst e; simp [hb]
            · have : x < c + 1 ↔ x < c := by omega
              rw [this, ← m1]
              simp [e]
      · have hb : S.testBit c = false := by
          cases hb : S.testBit c
          · rfl
          · exact absurd (hSn c hb) hcn
        rw [c_Affair_causeAtN (d + 1) hj hR ok (Or.inr (by rw [zI_int (by omega) (by omega)]; omega)), qbN_none]
        exact skip hb
  rw [qe_Plan_takeCauses (h0 := qd5 hp) (h1 := qd2 hj), qb_Plan_takeCauses_0]
  simp only [zI_of]
  exact L 12 0 _ [] (by omega) (Fr.si' (Fr.si (isPl_of (by decide))) (isPl_of (by decide))) (hD.congr (by rw [qsi_get, if_neg (by simp), qsi_get, if_neg (by simp)]) (by rw [qsi_ne (by simp), qsi_ne (by simp)])) (hN.congr fun x => by rw [qsi_ne (by simp), qsi_ne (by simp)]) ⟨by decide, qsi_self _ _ _ _, fun i hi => absurd hi (by simp)⟩ (by simp) (by rw [qsi_get, if_neg (by simp), qsi_self]; rfl) (fun x hx => absurd hx (by omega)) List.nodup_nil (fun x => ⟨fun hx => (by cases hx), fun hx => absurd hx.1 (by omega)⟩) List.Pairwise.nil
