/-! the class's values -/
def FrB (p : Nat) (μ μ' : QM) : Prop := (∀ a, a ≠ (5, p, 0) → μ'.1 a = μ.1 a) ∧ (∀ k, k ≠ 7 → k ≠ 8 → μ'.1 (5, p, 0) k = μ.1 (5, p, 0) k) ∧ (∀ a, a ≠ (10, p, 0) → μ'.2.2 a = μ.2.2 a) ∧ μ'.2.1 = μ.2.1
theorem FrB.rf {p : Nat} {μ : QM} : FrB p μ μ := ⟨fun _ _ => rfl, fun _ _ _ => rfl, fun _ _ => rfl, rfl⟩
theorem FrB.tr {p : Nat} {μ μ1 μ2 : QM} (h : FrB p μ μ1) (h2 : FrB p μ1 μ2) : FrB p μ μ2 := ⟨fun a ha => (h2.1 a ha).trans (h.1 a ha), fun a ha hb => (h2.2.1 a ha hb).trans (h.2.1 a ha hb), fun a ha => (h2.2.2.1 a ha).trans (h.2.2.1 a ha), h2.2.2.2.trans h.2.2.2⟩
theorem FrK.b {p : Nat} {μ μ' : QM} (h : FrK p μ μ') : FrB p μ μ' := ⟨h.1, fun k a _ => h.2.1 k a, h.2.2.1, h.2.2.2⟩
theorem FrB.pl {p : Nat} {μ μ' : QM} (h : FrB p μ μ') : Fr (isPl p) μ μ' := ⟨fun a ha => h.1 a fun e => ha (by rw [e]; exact isPl_of (by decide)), fun a _ => congrFun h.2.2.2 a, fun a ha => h.2.2.1 a fun e => ha (by rw [e]; exact isPl_of (by decide))⟩
theorem FrB.si {p k : Nat} {μ : QM} {v : Int32} (hk : k = 7 ∨ k = 8) : FrB p μ (qsi μ (5, p, 0) k v) := ⟨fun a ha => qsi_ne ha, fun k' h1 h2 => by rw [qsi_get, if_neg (by simp; omega)], fun _ _ => rfl, rfl⟩
theorem FrB.sr {p i : Nat} {μ : QM} {v : Option QA} : FrB p μ (qsr μ (10, p, 0) i v) := ⟨fun _ _ => rfl, fun _ _ _ => rfl, fun a ha => qsr_ne ha, rfl⟩
theorem PD.b {p m : Nat} {D : Nat → Nat} {μ μ' : QM} (h : PD μ p m D) (f : FrB p μ μ') : PD μ' p m D := h.congr (f.2.1 1 (by decide) (by decide)) (f.1 _ (by simp))
theorem PN.b {p : Nat} {μ μ' : QM} (h : PN μ p) (f : FrB p μ μ') : PN μ' p := h.congr fun c => by rw [f.1 _ (by simp)]
theorem PQ.b {p : Nat} {Q : List Nat} {μ μ' : QM} (h : PQ μ p Q) (f : FrB p μ μ') : PQ μ' p Q := h.congr (f.2.1 4 (by decide) (by decide)) (f.2.2.1 _ (by simp))
theorem PC.b {p m S : Nat} {s : AS} {D : Nat → Nat} {μ μ' : QM} (h : PC μ p s m D S) (f : FrB p μ μ') : PC μ' p s m D S := ⟨h.1, (f.2.1 5 (by decide) (by decide)).trans h.2.1, fun c hc => by rw [f.1 _ (by simp)]; exact h.2.2 c hc⟩
/-- what a plan is that has taken days and causes -/
def PP (μ : QM) (p : Nat) (s : AS) (m : Nat) (D : Nat → Nat) (S : Nat) (Q : List Nat) : Prop := PD μ p m D ∧ PN μ p ∧ PC μ p s m D S ∧ PQ μ p Q ∧ Qok (aW s) S Q
theorem PP.b {p m S : Nat} {s : AS} {D : Nat → Nat} {Q : List Nat} {μ μ' : QM} (h : PP μ p s m D S Q) (f : FrB p μ μ') : PP μ' p s m D S Q := ⟨h.1.b f, h.2.1.b f, h.2.2.1.b f, h.2.2.2.1.b f, h.2.2.2.2⟩
theorem PP.fr {P : QA → Prop} {p m S : Nat} {s : AS} {D : Nat → Nat} {Q : List Nat} {μ μ' : QM} (h : PP μ p s m D S Q) (f : Fr P μ μ') (hP : ∀ a, isPl p a → ¬ P a) : PP μ' p s m D S Q := by
  have e5 : μ'.1 (5, p, 0) = μ.1 (5, p, 0) := f.1 _ (hP _ (isPl_of (by decide)))
  have e6 : ∀ c, μ'.1 (6, p, c) = μ.1 (6, p, c) := fun c => f.1 _ (hP _ (isPl_of (by decide)))
  have e7 : μ'.1 (7, p, 0) = μ.1 (7, p, 0) := f.1 _ (hP _ (isPl_of (by decide)))
  have e9 : μ'.2.2 (9, p, 0) = μ.2.2 (9, p, 0) := f.2.2 _ (hP _ (isPl_of (by decide)))
  obtain ⟨h1, h2, h3, h4, h5⟩ := h
  exact ⟨h1.congr (by rw [e5]) e7, h2.congr (fun c => by rw [e6]), ⟨h3.1, by rw [e5]; exact h3.2.1, fun c hc => by rw [e6]; exact h3.2.2 c hc⟩, h4.congr (by rw [e5]) e9, h5⟩
def gB (s : AS) (m : Nat) (D : Nat → Nat) (c i : Nat) : Bool := (gdB s m D c).testBit i
def fW (s : AS) (c : Nat) : Nat := 1000 + aW s c
/-- the search's finding: value and causes -/
def bO (s : AS) (m : Nat) (D : Nat → Nat) (Q : List Nat) (B DB : Nat) : Nat × Nat := (gf (gB s m D) m (DB ^^^ 4294967295) (fW s) (Q.filter B.testBit) (fun _ => none) 0 0).2
theorem c_Plan_bestOf (d : Nat) {p m S B DB : Nat} {D : Nat → Nat} {s : AS} {Q : List Nat} {μ : QM} (hp : p < 2) (h : PP μ p s m D S Q) :
    ∃ μ', qcall qprogs (d + 15) 35 [qR (5, p, 0), qI (zI (B : Nat)), qI (zI (DB : Nat))] μ = some (some (qI (zI ((bO s m D Q B DB).1 : Nat))), μ') ∧ FrB p μ μ' ∧ μ'.1 (5, p, 0) 8 = zI ((bO s m D Q B DB).2 : Nat) := by
  obtain ⟨hD, hN, hC, hQ, hok⟩ := h
  have m12 := hD.1
  have q12 := hQ.1
  have L2 : ∀ r i v k t μ1, i + r = Q.length → FrB p μ μ1 → (∀ i, i < 12 → μ1.2.2 (10, p, 0) i = (t i).map (fun c => (6, p, c))) → (∀ i x, t i = some x → S.testBit x = true) → μ1.1 (5, p, 0) 8 = zI (k : Nat) →
      ∃ μ', qx (d + 14) qc_Plan_bestOf 31 [some (qR (5, p, 0)), some (qI (zI (B : Nat))), some (qI (zI (DB : Nat))), some (qI (zI (v : Nat))), some (qI (zI (i : Nat))), none] [] μ1 = some (some (qI (zI ((gf (gB s m D) m (DB ^^^ 4294967295) (fW s) ((Q.drop i).filter B.testBit) t v k).2.1 : Nat))), μ') ∧ FrB p μ μ' ∧ μ'.1 (5, p, 0) 8 = zI ((gf (gB s m D) m (DB ^^^ 4294967295) (fW s) ((Q.drop i).filter B.testBit) t v k).2.2 : Nat) := by
    intro r
    induction r with
    | zero =>
      intro i v k t μ1 hi fr hK hK2 hk
      rw [List.drop_eq_nil_of_le (by omega)]
      rw [qb_Plan_bestOf_31, (hQ.b fr).2.1]
      simp (disch := omega) only [zI_of, zI_0, zI_1, zI_add, zI_sub, zI_mul, zI_neg, zI_lt, zI_le, zI_eq, zI_rem, zI_oob, zI_ixN, zI_ix, zI_ite, zI10, zI01, Int.toNat_natCast, cond_false, cond_true, q01_0, q01_1, q01_0z, q01_1z, qB_if, qB_ifz, qB_ret, qB_retz, qbI_some, qbV_some, qbL_some, qbR_some, qbN_some, qbN_none, true_or, or_true, false_or, or_false, if_true, if_false, Int.reduceEq, Int.reduceLT, Int.reduceLE, Int.reduceNeg, qb_Plan_bestOf_127]
      rw [if_pos (by omega)]
      exact ⟨μ1, rfl, fr, hk⟩
    | succ r ih =>
      intro i v k t μ1 hi fr hK hK2 hk
      have hiQ : i < Q.length := by omega
      have hmem : Q.getD i 0 ∈ Q := by rw [gD hiQ]; exact List.getElem_mem hiQ
      have hS := (hok.2.1 _).mp hmem
      obtain ⟨c12, f1, f2, f3⟩ := (hC.b fr).2.2 _ hS
      have n0 := (hN.b fr) _ c12
      have r9 := (hQ.b fr).2.2 i hiQ
      have ed : Q.drop i = Q.getD i 0 :: Q.drop (i + 1) := by rw [List.drop_eq_getElem_cons hiQ, gD hiQ]
      rw [ed, List.filter_cons]
      generalize Q.getD i 0 = c at *
      have next : ∀ v k t μ1, FrB p μ μ1 → (∀ i, i < 12 → μ1.2.2 (10, p, 0) i = (t i).map (fun c => (6, p, c))) → (∀ i x, t i = some x → S.testBit x = true) → μ1.1 (5, p, 0) 8 = zI (k : Nat) →
          ∃ μ', qx (d + 14) qc_Plan_bestOf 121 [some (qR (5, p, 0)), some (qI (zI (B : Nat))), some (qI (zI (DB : Nat))), some (qI (zI (v : Nat))), some (qI (zI (i : Nat))), none] [] μ1 = some (some (qI (zI ((gf (gB s m D) m (DB ^^^ 4294967295) (fW s) ((Q.drop (i + 1)).filter B.testBit) t v k).2.1 : Nat))), μ') ∧ FrB p μ μ' ∧ μ'.1 (5, p, 0) 8 = zI ((gf (gB s m D) m (DB ^^^ 4294967295) (fW s) ((Q.drop (i + 1)).filter B.testBit) t v k).2.2 : Nat) := fun v k t μ1 a1 a2 a2' a3 => by
        rw [qb_Plan_bestOf_121]
        simp (disch := omega) only [zI_of, zI_0, zI_1, zI_add, zI_sub, zI_mul, zI_neg, zI_lt, zI_le, zI_eq, zI_rem, zI_oob, zI_ixN, zI_ix, zI_ite, zI10, zI01, Int.toNat_natCast, cond_false, cond_true, q01_0, q01_1, q01_0z, q01_1z, qB_if, qB_ifz, qB_ret, qB_retz, qbI_some, qbV_some, qbL_some, qbR_some, qbN_some, qbN_none, true_or, or_true, false_or, or_false, if_true, if_false, Int.reduceEq, Int.reduceLT, Int.reduceLE, Int.reduceNeg]
        exact ih (i + 1) v k t μ1 (by omega) a1 a2 a2' a3
      rw [qb_Plan_bestOf_31, (hQ.b fr).2.1]
      simp (disch := omega) only [zI_of, zI_0, zI_1, zI_add, zI_sub, zI_mul, zI_neg, zI_lt, zI_le, zI_eq, zI_rem, zI_oob, zI_ixN, zI_ix, zI_ite, zI10, zI01, Int.toNat_natCast, cond_false, cond_true, q01_0, q01_1, q01_0z, q01_1z, qB_if, qB_ifz, qB_ret, qB_retz, qbI_some, qbV_some, qbL_some, qbR_some, qbN_some, qbN_none, true_or, or_true, false_or, or_false, if_true, if_false, Int.reduceEq, Int.reduceLT, Int.reduceLE, Int.reduceNeg, r9, qoN_some (qd6 hp c12), n0, zI_31, zI_bit, zI_and, tb_if]
      rw [if_neg (by omega), if_neg (by omega)]
      cases hb : B.testBit c
      · rw [if_neg (by simp)]
        exact next v k t μ1 fr hK hK2 hk
      · rw [if_pos rfl, cond_true, qb_Plan_bestOf_76, zI_of (-1), zI_xorm, zI_of 0]
        obtain ⟨μ3, r1, r2, r3⟩ := c_Plan_findDay (C := fun c => S.testBit c = true) (G := gdB s m D) hp m12 13 d 0 c (DB ^^^ 4294967295) t (qsi μ1 (5, p, 0) 7 (zI ((DB ^^^ 4294967295 : Nat) : Int))) rfl hS (by rw [qsi_get, if_neg (by simp)]; exact (hD.b fr).2.1) (fun c hc => by
          obtain ⟨a1, -, -, a2⟩ := (hC.b fr).2.2 c hc
          exact ⟨a1, by rw [qsi_ne (by simp)]; exact a2⟩) ⟨hK, qsi_self _ _ _ _, hK2⟩
        have fr3 : FrB p μ μ3 := (fr.tr (FrB.si (Or.inl rfl))).tr r2.b
        have k3 : μ3.1 (5, p, 0) 8 = zI (k : Nat) := by rw [r2.2.1 8 (by decide), qsi_get, if_neg (by simp)]; exact hk
        rw [show d + 14 = d + 13 + 1 from rfl, show zI (0 : Int) = zI ((0 : Nat) : Int) from rfl, r1, qbI_some]
        unfold gf
        rw [show (fun c i => (gdB s m D c).testBit i) = gB s m D from rfl] at r1 r3 ⊢
        generalize kd (gB s m D) m 13 t (DB ^^^ 4294967295) c = R at *
        obtain ⟨b, t', s'⟩ := R
        dsimp only at *
        cases b
        · rw [if_pos (by decide), if_neg (by decide)]
          exact next v k t' μ3 fr3 r3.1 r3.2.2 k3
        · obtain ⟨-, f1, f2, f3⟩ := (hC.b fr3).2.2 c hS
          have n0 := (hN.b fr3) c c12
          rw [if_neg (by decide), if_pos rfl, k3, n0, qsi_ne (by simp), f1]
          have e1 : zI (k : Nat) ||| Int32.ofInt 1 <<< (zI (c : Nat) &&& 31) = zI ((k ||| 2 ^ c : Nat) : Int) := by rw [zI_of, zI_31, zI_bit (by omega), zI_or]
          have e2 : zI (v : Nat) + (Int32.ofInt 1000 + zI (aW s c : Nat)) = zI ((v + fW s c : Nat) : Int) := by rw [zI_of, zI_add, zI_add]; refine zI_congr ?_; unfold fW; omega
          rw [e1, e2]
          exact next (v + fW s c) (k ||| 2 ^ c) t' _ (fr3.tr (FrB.si (Or.inr rfl))) r3.1 r3.2.2 (qsi_self _ _ _ _)
  have L1 : ∀ r i μ1, i + r = 12 → FrB p μ μ1 → (∀ j, j < i → μ1.2.2 (10, p, 0) j = none) → ∃ μ', qx (d + 14) qc_Plan_bestOf 2 [some (qR (5, p, 0)), some (qI (zI (B : Nat))), some (qI (zI (DB : Nat))), some (qI (zI (i : Nat))), none, none] [] μ1 = some (some (qI (zI ((bO s m D Q B DB).1 : Nat))), μ') ∧ FrB p μ μ' ∧ μ'.1 (5, p, 0) 8 = zI ((bO s m D Q B DB).2 : Nat) := by
    intro r
    induction r with
    | zero =>
      intro i μ1 hi fr hn
      rw [qb_Plan_bestOf_2]
      simp (disch := omega) only [zI_of, zI_0, zI_1, zI_add, zI_sub, zI_mul, zI_neg, zI_lt, zI_le, zI_eq, zI_rem, zI_oob, zI_ixN, zI_ix, zI_ite, zI10, zI01, Int.toNat_natCast, cond_false, cond_true, q01_0, q01_1, q01_0z, q01_1z, qB_if, qB_ifz, qB_ret, qB_retz, qbI_some, qbV_some, qbL_some, qbR_some, qbN_some, qbN_none, true_or, or_true, false_or, or_false, if_true, if_false, Int.reduceEq, Int.reduceLT, Int.reduceLE, Int.reduceNeg, qb_Plan_bestOf_21]
      rw [if_pos (by omega)]
      exact L2 Q.length 0 0 0 (fun _ => none) _ (by omega) (fr.tr (FrB.si (Or.inr rfl))) (fun j hj => hn j (by omega)) (fun i x hx => by cases hx) (qsi_self _ _ _ _)
    | succ r ih =>
      intro i μ1 hi fr hn
      rw [qb_Plan_bestOf_2]
      simp (disch := omega) only [zI_of, zI_0, zI_1, zI_add, zI_sub, zI_mul, zI_neg, zI_lt, zI_le, zI_eq, zI_rem, zI_oob, zI_ixN, zI_ix, zI_ite, zI10, zI01, Int.toNat_natCast, cond_false, cond_true, q01_0, q01_1, q01_0z, q01_1z, qB_if, qB_ifz, qB_ret, qB_retz, qbI_some, qbV_some, qbL_some, qbR_some, qbN_some, qbN_none, true_or, or_true, false_or, or_false, if_true, if_false, Int.reduceEq, Int.reduceLT, Int.reduceLE, Int.reduceNeg]
      rw [if_neg (by omega)]
      refine ih (i + 1) _ (by omega) (fr.tr FrB.sr) fun j hj => ?_
      show (if (10, p, 0) = (10, p, 0) ∧ j = i then none else μ1.2.2 (10, p, 0) j) = none
      by_cases e : j = i
      · rw [if_pos ⟨rfl, e⟩]
      · rw [if_neg (by simp [e])]; exact hn j (by omega)
  rw [qe_Plan_bestOf (h0 := qd5 hp), qb_Plan_bestOf_0]
  simp only [zI_of]
  exact L1 12 0 μ (by omega) FrB.rf (fun j hj => absurd hj (by omega))
