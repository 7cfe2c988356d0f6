/-! the class's search is the pure one -/
def FrK (p : Nat) (μ μ' : QM) : Prop := (∀ a, a ≠ (5, p, 0) → μ'.1 a = μ.1 a) ∧ (∀ k, k ≠ 7 → μ'.1 (5, p, 0) k = μ.1 (5, p, 0) k) ∧ (∀ a, a ≠ (10, p, 0) → μ'.2.2 a = μ.2.2 a) ∧ μ'.2.1 = μ.2.1
theorem FrK.rf {p : Nat} {μ : QM} : FrK p μ μ := ⟨fun _ _ => rfl, fun _ _ => rfl, fun _ _ => rfl, rfl⟩
theorem FrK.tr {p : Nat} {μ μ1 μ2 : QM} (h : FrK p μ μ1) (h2 : FrK p μ1 μ2) : FrK p μ μ2 := ⟨fun a ha => (h2.1 a ha).trans (h.1 a ha), fun a ha => (h2.2.1 a ha).trans (h.2.1 a ha), fun a ha => (h2.2.2.1 a ha).trans (h.2.2.1 a ha), h2.2.2.2.trans h.2.2.2⟩
theorem FrK.pl {p : Nat} {μ μ' : QM} (h : FrK p μ μ') : Fr (isPl p) μ μ' := ⟨fun a ha => h.1 a fun e => ha (by rw [e]; exact isPl_of (by decide)), fun a _ => congrFun h.2.2.2 a, fun a ha => h.2.2.1 a fun e => ha (by rw [e]; exact isPl_of (by decide))⟩
theorem FrK.si {p : Nat} {μ : QM} {v : Int32} : FrK p μ (qsi μ (5, p, 0) 7 v) := ⟨fun a ha => qsi_ne ha, fun k hk => by rw [qsi_get, if_neg (by simp [hk])], fun _ _ => rfl, rfl⟩
theorem FrK.sr {p i : Nat} {μ : QM} {v : Option QA} : FrK p μ (qsr μ (10, p, 0) i v) := ⟨fun _ _ => rfl, fun _ _ => rfl, fun a ha => qsr_ne ha, rfl⟩
def PK (μ : QM) (p : Nat) (C : Nat → Prop) (t : KT) (s : Nat) : Prop := (∀ i, i < 12 → μ.2.2 (10, p, 0) i = (t i).map (fun c => (6, p, c))) ∧ μ.1 (5, p, 0) 7 = zI (s : Nat) ∧ ∀ i x, t i = some x → C x
theorem PK.see {μ : QM} {p s i : Nat} {C : Nat → Prop} {t : KT} (h : PK μ p C t s) : PK (qsi μ (5, p, 0) 7 (zI ((s ||| 2 ^ i : Nat) : Int))) p C t (s ||| 2 ^ i) := ⟨h.1, qsi_self _ _ _ _, h.2.2⟩
theorem PK.put {μ : QM} {p s i c : Nat} {C : Nat → Prop} {t : KT} (h : PK μ p C t s) (hc : C c) : PK (qsr μ (10, p, 0) i (some (6, p, c))) p C (ku t i c) s := by
  refine ⟨fun k hk => ?_, h.2.1, fun k x hx => ?_⟩
  · show (if (10, p, 0) = (10, p, 0) ∧ k = i then some (6, p, c) else μ.2.2 (10, p, 0) k) = (if k = i then some c else t k).map _
    by_cases e : k = i
    · rw [if_pos ⟨rfl, e⟩, if_pos e]; rfl
    · rw [if_neg (by simp [e]), if_neg e]; exact h.1 k hk
  · by_cases e : k = i
    · have : (some c : Option Nat) = some x := by rw [← hx]; exact (if_pos e).symm
      cases this
      exact hc
    · exact h.2.2 k x (by rw [← hx]; exact (if_neg e).symm)
theorem c_Plan_findDay {p m : Nat} {C : Nat → Prop} {G : Nat → Nat} (hp : p < 2) (hm : m ≤ 12) : ∀ (e d z c s : Nat) (t : KT) (μ : QM), z + e = 13 → C c → μ.1 (5, p, 0) 1 = zI (m : Nat) → (∀ c, C c → c < 12 ∧ μ.1 (6, p, c) 3 = zI (G c : Nat)) → PK μ p C t s →
    ∃ μ', qcall qprogs (d + e + 1) 36 [qR (5, p, 0), qR (6, p, c), qI (zI (z : Nat))] μ = some (some (qI (qB (kd (fun c i => (G c).testBit i) m e t s c).1)), μ') ∧ FrK p μ μ' ∧ PK μ' p C (kd (fun c i => (G c).testBit i) m e t s c).2.1 (kd (fun c i => (G c).testBit i) m e t s c).2.2
  | 0, d, z, c, s, t, μ, hz, hc, hD, hG, hK => by
    rw [qe_Plan_findDay (h0 := qd5 hp) (h1 := qd6 hp (hG c hc).1), qb_Plan_findDay_0]
    simp (disch := omega) only [zI_of, zI_0, zI_1, zI_add, zI_sub, zI_mul, zI_neg, zI_lt, zI_le, zI_eq, zI_rem, zI_oob, zI_ixN, zI_ix, zI_ite, zI10, zI01, Int.toNat_natCast, cond_false, cond_true, q01_0, q01_1, q01_0z, q01_1z, qB_if, qB_ifz, qB_ret, qB_retz, qbI_some, qbV_some, qbL_some, qbR_some, qbN_some, qbN_none, true_or, or_true, false_or, or_false, if_true, if_false, Int.reduceEq, Int.reduceLT, Int.reduceLE, Int.reduceNeg]
    rw [if_neg (by omega)]
    exact ⟨μ, rfl, FrK.rf, hK⟩
  | e + 1, d, z, c, s, t, μ, hz, hc, hD, hG, hK => by
    have L : ∀ r i s t μ1, i + r = m → FrK p μ μ1 → PK μ1 p C t s →
        ∃ μ', qx (d + e + 1) qc_Plan_findDay 10 [some (qR (5, p, 0)), some (qR (6, p, c)), some (qI (zI (z : Nat))), some (qI (zI (i : Nat))), none, none] [] μ1 = some (some (qI (qB (kl (fun c i => (G c).testBit i) (kd (fun c i => (G c).testBit i) m e) c r i t s).1)), μ') ∧ FrK p μ μ' ∧ PK μ' p C (kl (fun c i => (G c).testBit i) (kd (fun c i => (G c).testBit i) m e) c r i t s).2.1 (kl (fun c i => (G c).testBit i) (kd (fun c i => (G c).testBit i) m e) c r i t s).2.2 := by
      intro r
      induction r with
      | zero =>
        intro i s t μ1 hi fr hK
        rw [qb_Plan_findDay_10, fr.2.1 1 (by decide), hD]
        simp (disch := omega) only [zI_of, zI_0, zI_1, zI_add, zI_sub, zI_mul, zI_neg, zI_lt, zI_le, zI_eq, zI_rem, zI_oob, zI_ixN, zI_ix, zI_ite, zI10, zI01, Int.toNat_natCast, cond_false, cond_true, q01_0, q01_1, q01_0z, q01_1z, qB_if, qB_ifz, qB_ret, qB_retz, qbI_some, qbV_some, qbL_some, qbR_some, qbN_some, qbN_none, true_or, or_true, false_or, or_false, if_true, if_false, Int.reduceEq, Int.reduceLT, Int.reduceLE, Int.reduceNeg, qb_Plan_findDay_103]
        rw [if_pos (by omega)]
        exact ⟨μ1, rfl, fr, hK⟩
      | succ r ih =>
        intro i s t μ1 hi fr hK
        have hGc : μ1.1 (6, p, c) 3 = zI (G c : Nat) := by rw [fr.1 _ (by simp)]; exact (hG c hc).2
        have i12 : i < 12 := by omega
        have skip : ∀ s t μ2, FrK p μ μ2 → PK μ2 p C t s → ∃ μ', qx (d + e + 1) qc_Plan_findDay 97 [some (qR (5, p, 0)), some (qR (6, p, c)), some (qI (zI (z : Nat))), some (qI (zI (i : Nat))), none, none] [] μ2 = some (some (qI (qB (kl (fun c i => (G c).testBit i) (kd (fun c i => (G c).testBit i) m e) c r (i + 1) t s).1)), μ') ∧ FrK p μ μ' ∧ PK μ' p C (kl (fun c i => (G c).testBit i) (kd (fun c i => (G c).testBit i) m e) c r (i + 1) t s).2.1 (kl (fun c i => (G c).testBit i) (kd (fun c i => (G c).testBit i) m e) c r (i + 1) t s).2.2 := fun s t μ2 f2 k2 => by
          rw [qb_Plan_findDay_97]
          simp (disch := omega) only [zI_of, zI_0, zI_1, zI_add, zI_sub, zI_mul, zI_neg, zI_lt, zI_le, zI_eq, zI_rem, zI_oob, zI_ixN, zI_ix, zI_ite, zI10, zI01, Int.toNat_natCast, cond_false, cond_true, q01_0, q01_1, q01_0z, q01_1z, qB_if, qB_ifz, qB_ret, qB_retz, qbI_some, qbV_some, qbL_some, qbR_some, qbN_some, qbN_none, true_or, or_true, false_or, or_false, if_true, if_false, Int.reduceEq, Int.reduceLT, Int.reduceLE, Int.reduceNeg]
          exact ih (i + 1) s t μ2 (by omega) f2 k2
        rw [qb_Plan_findDay_10, fr.2.1 1 (by decide), hD, hGc, hK.2.1]
        simp (disch := omega) only [zI_of, zI_0, zI_1, zI_add, zI_sub, zI_mul, zI_neg, zI_lt, zI_le, zI_eq, zI_rem, zI_oob, zI_ixN, zI_ix, zI_ite, zI10, zI01, Int.toNat_natCast, cond_false, cond_true, q01_0, q01_1, q01_0z, q01_1z, qB_if, qB_ifz, qB_ret, qB_retz, qbI_some, qbV_some, qbL_some, qbR_some, qbN_some, qbN_none, true_or, or_true, false_or, or_false, if_true, if_false, Int.reduceEq, Int.reduceLT, Int.reduceLE, Int.reduceNeg, zI_31, zI_bit, zI_and, tb_if]
        rw [if_neg (by omega), if_neg (by omega)]
        unfold kl
        cases hg : (G c).testBit i
        · rw [if_pos (Or.inl rfl)]
          exact skip s t μ1 fr hK
        · cases hs : s.testBit i
          · rw [if_neg (by simp)]
            simp only [cond_true, cond_false]
            rw [qb_Plan_findDay_52, zI_oob (n := 12) (by omega), cond_false, hK.2.1, zI_or, show qix (zI (i : Nat)) = i from zI_ixN (by omega)]
            have k2 : PK (qsi μ1 (5, p, 0) 7 (zI ((s ||| 2 ^ i : Nat) : Int))) p C t (s ||| 2 ^ i) := hK.see
            have f2 : FrK p μ (qsi μ1 (5, p, 0) 7 (zI ((s ||| 2 ^ i : Nat) : Int))) := fr.tr FrK.si
            generalize qsi μ1 (5, p, 0) 7 (zI ((s ||| 2 ^ i : Nat) : Int)) = μ2 at *
            rw [k2.1 i i12]
            cases ht : t i with
            | none =>
              show ∃ μ', qx (d + e + 1) qc_Plan_findDay 88 [some (qR (5, p, 0)), some (qR (6, p, c)), none, some (qI (zI (i : Nat))), none, none] [] μ2 = _ ∧ _
              rw [qb_Plan_findDay_88]
              simp (disch := omega) only [zI_of, zI_0, zI_1, zI_add, zI_sub, zI_mul, zI_neg, zI_lt, zI_le, zI_eq, zI_rem, zI_oob, zI_ixN, zI_ix, zI_ite, zI10, zI01, Int.toNat_natCast, cond_false, cond_true, q01_0, q01_1, q01_0z, q01_1z, qB_if, qB_ifz, qB_ret, qB_retz, qbI_some, qbV_some, qbL_some, qbR_some, qbN_some, qbN_none, true_or, or_true, false_or, or_false, if_true, if_false, Int.reduceEq, Int.reduceLT, Int.reduceLE, Int.reduceNeg]
              exact ⟨_, rfl, f2.tr FrK.sr, k2.put hc⟩
            | some c' =>
              have hc' := k2.2.2 i c' ht
              obtain ⟨μ3, r1, r2, r3⟩ := c_Plan_findDay (m := m) hp hm e d (z + 1) c' (s ||| 2 ^ i) t μ2 (by omega) hc' (by rw [f2.2.1 1 (by decide)]; exact hD) (fun c hc => by rw [f2.1 _ (by simp)]; exact hG c hc) k2
              rw [Option.map_some, qoN_some (qd6 hp (hG c' hc').1), show zI (z : Nat) + Int32.ofInt 1 = zI ((z + 1 : Nat) : Int) by rw [zI_of, zI_add]; rfl, r1, qbI_some]
              dsimp only
              have f3 := f2.tr r2
              have k3 := r3
              generalize kd (fun c i => (G c).testBit i) m e t (s ||| 2 ^ i) c' = R at *
              obtain ⟨b, t', s'⟩ := R
              dsimp only at *
              cases b
              · rw [if_pos (by decide), if_neg (by decide)]
                exact skip s' t' μ3 f3 k3
              · rw [if_neg (by decide), if_pos rfl, qb_Plan_findDay_88]
                simp (disch := omega) only [zI_of, zI_0, zI_1, zI_add, zI_sub, zI_mul, zI_neg, zI_lt, zI_le, zI_eq, zI_rem, zI_oob, zI_ixN, zI_ix, zI_ite, zI10, zI01, Int.toNat_natCast, cond_false, cond_true, q01_0, q01_1, q01_0z, q01_1z, qB_if, qB_ifz, qB_ret, qB_retz, qbI_some, qbV_some, qbL_some, qbR_some, qbN_some, qbN_none, true_or, or_true, false_or, or_false, if_true, if_false, Int.reduceEq, Int.reduceLT, Int.reduceLE, Int.reduceNeg]
                exact ⟨_, rfl, f3.tr FrK.sr, k3.put hc⟩
          · rw [if_pos (Or.inr rfl)]
            exact skip s t μ1 fr hK
    rw [qe_Plan_findDay (h0 := qd5 hp) (h1 := qd6 hp (hG c hc).1), qb_Plan_findDay_0]
    simp (disch := omega) only [zI_of, zI_0, zI_1, zI_add, zI_sub, zI_mul, zI_neg, zI_lt, zI_le, zI_eq, zI_rem, zI_oob, zI_ixN, zI_ix, zI_ite, zI10, zI01, Int.toNat_natCast, cond_false, cond_true, q01_0, q01_1, q01_0z, q01_1z, qB_if, qB_ifz, qB_ret, qB_retz, qbI_some, qbV_some, qbL_some, qbR_some, qbN_some, qbN_none, true_or, or_true, false_or, or_false, if_true, if_false, Int.reduceEq, Int.reduceLT, Int.reduceLE, Int.reduceNeg, qb_Plan_findDay_8]
    rw [if_pos (by omega)]
    obtain ⟨μ', q⟩ := L m 0 s t μ (by omega) FrK.rf hK
    exact ⟨μ', q⟩
