/-! a plan's causes -/
theorem tb_eq {T c : Nat} : (T &&& 2 ^ c) = 0 ↔ T.testBit c = false := by
  constructor
  · intro h
    have := Nat.testBit_and T (2 ^ c) c
    rw [h, Nat.zero_testBit, Nat.testBit_two_pow_self, Bool.and_true] at this
    exact this.symm
  · intro h
    apply Nat.eq_of_testBit_eq
    intro i
    rw [Nat.testBit_and, Nat.testBit_two_pow, Nat.zero_testBit]
    by_cases e : c = i
    · subst e; simp [h]
    · simp [e]
theorem tb_lt {T c : Nat} (hc : c < 31) : (T &&& 2 ^ c) < 2147483648 := Nat.lt_of_le_of_lt Nat.and_le_right (Nat.lt_of_lt_of_le (Nat.pow_lt_pow_right (by decide) hc) (by decide))
theorem tb_if {α : Type} {T c : Nat} (hc : c < 31) (x y : α) : (if zI ((T &&& 2 ^ c : Nat) : Int) = zI 0 then x else y) = bif T.testBit c then y else x := by
  have := tb_lt (T := T) hc
  cases h : T.testBit c
  · rw [if_pos (by rw [tb_eq.mpr h]; rfl)]; rfl
  · rw [if_neg (fun e => by
      rw [zI_eq (by omega)] at e
      rw [tb_eq.mp (by omega)] at h
      cases h)]; rfl
theorem tb_or {T c : Nat} (h : T < 2 ^ c) : T ||| 2 ^ c = T + 2 ^ c := Nat.or_two_pow_eq_add_of_lt h
theorem gD {Q : List Nat} {i : Nat} (h : i < Q.length) : Q.getD i 0 = Q[i] := by simp [List.getD_eq_getElem?_getD, h]
theorem qoN_some {t j c : Nat} (h : qdom (t, j, c) = true) (f : Nat → Nat → QR) (g : QR) : qoN t (some (t, j, c)) f g = f j c := if_pos ⟨rfl, h⟩
theorem qoN_none {t : Nat} (f : Nat → Nat → QR) (g : QR) : qoN t none f g = g := rfl
theorem c_Plan_freshDaysOf (d : Nat) {p j c m : Nat} {D : Nat → Nat} {s : AS} {μ : QM} (hp : p < 2) (hj : j < 11) (h : RA μ j s) (ok : aOK s) (hc : c < aN s) (hD : PD μ p m D) :
    qcall qprogs (d + 2) 30 [qR (5, p, 0), qR (1, j, c)] μ = some (some (qI (zI (gdB s m D c : Nat))), μ) := by
  have h12 := ok.2.1
  obtain ⟨m12, hm, hDi⟩ := hD
  have L : ∀ k i, i + k = m → qx (d + 1) qc_Plan_freshDaysOf 4 [some (qR (5, p, 0)), some (qR (1, j, c)), some (qI (zI (mk (fun i => aF s c (D i)) i : Nat))), some (qI (zI (i : Nat)))] [] μ = some (some (qI (zI (gdB s m D c : Nat))), μ) := by
    intro k
    induction k with
    | zero =>
      intro i hi
      rw [qb_Plan_freshDaysOf_4, hm]
      simp (disch := omega) only [zI_of, zI_0, zI_1, zI_add, zI_sub, zI_mul, zI_neg, zI_lt, zI_le, zI_eq, zI_rem, zI_oob, zI_ixN, zI_ix, zI_ite, zI10, zI01, Int.toNat_natCast, cond_false, cond_true, q01_0, q01_1, q01_0z, q01_1z, qB_if, qB_ifz, qB_ret, qB_retz, qbI_some, qbV_some, qbL_some, qbR_some, qbN_some, qbN_none, true_or, or_true, false_or, or_false, if_true, if_false, Int.reduceEq, Int.reduceLT, Int.reduceLE, Int.reduceNeg, qb_Plan_freshDaysOf_43]
      rw [if_pos (by omega), show i = m by omega]
      rfl
    | succ k ih =>
      intro i hi
      obtain ⟨b1, b2⟩ := hDi i (by omega)
      rw [qb_Plan_freshDaysOf_4, hm]
      simp (disch := omega) only [zI_of, zI_0, zI_1, zI_add, zI_sub, zI_mul, zI_neg, zI_lt, zI_le, zI_eq, zI_rem, zI_oob, zI_ixN, zI_ix, zI_ite, zI10, zI01, Int.toNat_natCast, cond_false, cond_true, q01_0, q01_1, q01_0z, q01_1z, qB_if, qB_ifz, qB_ret, qB_retz, qbI_some, qbV_some, qbL_some, qbR_some, qbN_some, qbN_none, true_or, or_true, false_or, or_false, if_true, if_false, Int.reduceEq, Int.reduceLT, Int.reduceLE, Int.reduceNeg, qb_Plan_freshDaysOf_37, b2, c_Cause_isFreshOn d hj h ok hc b1, zI_31, zI_bit, zI_or, mk_or]
      rw [if_neg (by omega), if_neg (by omega)]
      have i1 := ih (i + 1) (by omega)
      cases hf : aF s c (D i)
      · rw [mk_f (by exact hf)] at i1
        exact i1
      · rw [mk_t (by exact hf)] at i1
        exact i1
  rw [qe_Plan_freshDaysOf (h0 := qd5 hp) (h1 := qd1 hj (by omega)), qb_Plan_freshDaysOf_0]
  exact L m 0 (by omega)
theorem getD_ins (A B : List Nat) (c i : Nat) : (A ++ c :: B).getD i 0 = if i < A.length then (A ++ B).getD i 0 else if i = A.length then c else (A ++ B).getD (i - 1) 0 := by
  simp only [List.getD_eq_getElem?_getD, List.getElem?_append]
  by_cases h1 : i < A.length
  · simp [h1]
  · by_cases h2 : i = A.length
    · subst h2; simp
    · have h3 : ¬ i - 1 < A.length := by omega
      have h4 : i - A.length = (i - 1 - A.length) + 1 := by omega
      simp only [h1, h2, h3, if_false]
      rw [h4, List.getElem?_cons_succ]
def Rk (f : Nat → Nat) (a b : Nat) : Prop := f b < f a ∨ (f b = f a ∧ b < a)
theorem Qok.p {f : Nat → Nat} {S : Nat} {Q : List Nat} (h : Qok f S Q) : Q.Pairwise (Rk f) := h.2.2
theorem rk_ins {f : Nat → Nat} {A B : List Nat} {c : Nat} (h : (A ++ B).Pairwise (Rk f)) (hA : ∀ a ∈ A, f c < f a) (hB : ∀ b ∈ B, f b ≤ f c) (hc : ∀ x ∈ A ++ B, x < c) : (A ++ c :: B).Pairwise (Rk f) := by
  rw [List.pairwise_append] at h ⊢
  obtain ⟨h1, h2, h3⟩ := h
  refine ⟨h1, List.pairwise_cons.mpr ⟨fun b hb => ?_, h2⟩, fun a ha b hb => ?_⟩
  · have q1 := hB b hb
    have q2 := hc b (List.mem_append_right _ hb)
    unfold Rk
    omega
  · rcases List.mem_cons.mp hb with rfl | hb
    · exact Or.inl (hA a ha)
    · exact h3 a ha b hb
theorem c_Plan_sortIn (d : Nat) {p c : Nat} {Q : List Nat} {f : Nat → Nat} {μ : QM} (hp : p < 2) (hc : c < 12) (hQ : PQ μ p Q) (hl : Q.length < 12) (hf : ∀ x ∈ Q, x < c ∧ μ.1 (6, p, x) 1 = zI (f x : Nat)) (hfc : μ.1 (6, p, c) 1 = zI (f c : Nat)) (hb : ∀ x, x ≤ c → f x ≤ 1000) (hw : Q.Pairwise (Rk f)) :
    ∃ μ' A B, qcall qprogs (d + 1) 31 [qR (5, p, 0), qR (6, p, c)] μ = some (none, μ') ∧ Fr (isPl p) μ μ' ∧ (∀ a, a ≠ (5, p, 0) → μ'.1 a = μ.1 a) ∧ (∀ k, k ≠ 4 → μ'.1 (5, p, 0) k = μ.1 (5, p, 0) k) ∧ Q = A ++ B ∧ PQ μ' p (A ++ c :: B) ∧ (A ++ c :: B).Pairwise (Rk f) := by
  obtain ⟨q0, q1, q2⟩ := hQ
  have mem : ∀ i, i < Q.length → Q.getD i 0 ∈ Q := fun i hi => by rw [gD hi]; exact List.getElem_mem hi
  have L : ∀ q μ1, q ≤ Q.length → μ1.1 = μ.1 → Fr (isPl p) μ μ1 → (∀ i, i < q → μ1.2.2 (9, p, 0) i = some (6, p, Q.getD i 0)) → (∀ i, q ≤ i → i < Q.length → μ1.2.2 (9, p, 0) (i + 1) = some (6, p, Q.getD i 0) ∧ f (Q.getD i 0) ≤ f c) →
      ∃ μ' A B, qx d qc_Plan_sortIn 22 [some (qR (5, p, 0)), some (qR (6, p, c)), some (qI (zI (q : Nat)))] [] μ1 = some (none, μ') ∧ Fr (isPl p) μ μ' ∧ (∀ a, a ≠ (5, p, 0) → μ'.1 a = μ.1 a) ∧ (∀ k, k ≠ 4 → μ'.1 (5, p, 0) k = μ.1 (5, p, 0) k) ∧ Q = A ++ B ∧ PQ μ' p (A ++ c :: B) ∧ (A ++ c :: B).Pairwise (Rk f) := by
    intro q
    induction q with
    | zero =>
      intro μ1 hq e1 fr r1 r2
      rw [qb_Plan_sortIn_22]
      simp (disch := omega) only [zI_of, zI_0, zI_1, zI_add, zI_sub, zI_mul, zI_neg, zI_lt, zI_le, zI_eq, zI_rem, zI_oob, zI_ixN, zI_ix, zI_ite, zI10, zI01, Int.toNat_natCast, cond_false, cond_true, q01_0, q01_1, q01_0z, q01_1z, qB_if, qB_ifz, qB_ret, qB_retz, qbI_some, qbV_some, qbL_some, qbR_some, qbN_some, qbN_none, true_or, or_true, false_or, or_false, if_true, if_false, Int.reduceEq, Int.reduceLT, Int.reduceLE, Int.reduceNeg, qb_Plan_sortIn_64]
      rw [if_pos (by omega)]
      refine ⟨_, [], Q, rfl, ?_, fun a ha => ?_, fun k hk => ?_, rfl, ⟨by simp; omega, ?_, fun i hi => ?_⟩, rk_ins (A := []) hw (fun a ha => by cases ha) (fun b hb => ?_) (fun x hx => (hf x hx).1)⟩
      · exact fr.tr (Fr.si' (Fr.sr (isPl_of (by decide))) (isPl_of (by decide)))
      · rw [qsi_ne ha]; exact congrFun e1 a
      · rw [qsi_get, if_neg (by simp [hk])]; exact congrFun (congrFun e1 _) k
      · rw [qsi_self]
        show (qsr μ1 (9, p, 0) 0 (some (6, p, c))).1 (5, p, 0) 4 + _ = _
        rw [show (qsr μ1 (9, p, 0) 0 (some (6, p, c))).1 = μ1.1 from rfl, e1, q1, zI_add]
        rfl
      · show (if (9, p, 0) = (9, p, 0) ∧ i = 0 then some (6, p, c) else μ1.2.2 (9, p, 0) i) = _
        rw [getD_ins]
        by_cases e : i = 0
        · subst e; simp
        · rw [if_neg (by simp [e]), if_neg (by simp), if_neg (by simp [e])]
          have := (r2 (i - 1) (by omega) (by simp at hi; omega)).1
          rw [show i - 1 + 1 = i by omega] at this
          exact this
      · obtain ⟨i, hi, rfl⟩ := List.getElem_of_mem hb
        have := (r2 i (by omega) hi).2
        rw [gD hi] at this
        exact this
    | succ q ih =>
      intro μ1 hq e1 fr r1 r2
      have hm := mem q (by omega)
      have hx := hf _ hm
      have b1 := hb _ (Nat.le_of_lt hx.1)
      have b2 := hb c (Nat.le_refl c)
      have g1 : μ1.2.2 (9, p, 0) q = some (6, p, Q.getD q 0) := r1 q (by omega)
      have e2 : zI (((q + 1 : Nat) : Int) - 1) = zI (q : Nat) := zI_congr (by omega)
      rw [qb_Plan_sortIn_22]
      simp (disch := omega) only [zI_of, zI_0, zI_1, zI_add, zI_sub, zI_mul, zI_neg, zI_lt, zI_le, zI_eq, zI_rem, zI_oob, zI_ixN, zI_ix, zI_ite, zI10, zI01, Int.toNat_natCast, cond_false, cond_true, q01_0, q01_1, q01_0z, q01_1z, qB_if, qB_ifz, qB_ret, qB_retz, qbI_some, qbV_some, qbL_some, qbR_some, qbN_some, qbN_none, true_or, or_true, false_or, or_false, if_true, if_false, Int.reduceEq, Int.reduceLT, Int.reduceLE, Int.reduceNeg, e2, g1, e1, hfc, hx.2, qoN_some (qd6 hp (show Q.getD q 0 < 12 by omega))]
      rw [if_neg (by omega)]
      by_cases h1 : f c < f (Q.getD q 0)
      · rw [if_pos (by omega)]
        have eQ : Q = Q.take (q + 1) ++ Q.drop (q + 1) := (List.take_append_drop _ _).symm
        have lt : (Q.take (q + 1)).length = q + 1 := by rw [List.length_take]; omega
        simp (disch := omega) only [zI_of, zI_0, zI_1, zI_add, zI_sub, zI_mul, zI_neg, zI_lt, zI_le, zI_eq, zI_rem, zI_oob, zI_ixN, zI_ix, zI_ite, zI10, zI01, Int.toNat_natCast, cond_false, cond_true, q01_0, q01_1, q01_0z, q01_1z, qB_if, qB_ifz, qB_ret, qB_retz, qbI_some, qbV_some, qbL_some, qbR_some, qbN_some, qbN_none, true_or, or_true, false_or, or_false, if_true, if_false, Int.reduceEq, Int.reduceLT, Int.reduceLE, Int.reduceNeg, qb_Plan_sortIn_64]
        refine ⟨_, Q.take (q + 1), Q.drop (q + 1), rfl, ?_, fun a ha => ?_, fun k hk => ?_, eQ, ⟨by simp; omega, ?_, fun i hi => ?_⟩, rk_ins (by rw [← eQ]; exact hw) (fun a ha => ?_) (fun b hb => ?_) (fun x hx => (hf x (by rw [eQ]; exact hx)).1)⟩
        · exact fr.tr (Fr.si' (Fr.sr (isPl_of (by decide))) (isPl_of (by decide)))
        · rw [qsi_ne ha]; exact congrFun e1 a
        · rw [qsi_get, if_neg (by simp [hk])]; exact congrFun (congrFun e1 _) k
        · rw [qsi_self]
          show μ1.1 (5, p, 0) 4 + _ = _
          rw [e1, q1, zI_add]
          refine zI_congr ?_
          simp
          omega
        · show (if (9, p, 0) = (9, p, 0) ∧ i = q + 1 then some (6, p, c) else μ1.2.2 (9, p, 0) i) = _
          rw [getD_ins, ← eQ, lt]
          by_cases e : i = q + 1
          · subst e; simp
          · rw [if_neg (by simp [e])]
            by_cases e3 : i < q + 1
            · rw [if_pos e3]; exact r1 i e3
            · rw [if_neg e3, if_neg e]
              have := (r2 (i - 1) (by omega) (by simp at hi; omega)).1
              rw [show i - 1 + 1 = i by omega] at this
              exact this
        · obtain ⟨i, hi, rfl⟩ := List.getElem_of_mem ha
          rw [lt] at hi
          rw [List.getElem_take]
          by_cases e : i = q
          · subst e
            rw [gD (by omega)] at h1
            exact h1
          · have := (List.pairwise_iff_getElem.mp hw) i q (by omega) (by omega) (by omega)
            rw [gD (by omega)] at h1
            unfold Rk at this
            omega
        · obtain ⟨i, hi, rfl⟩ := List.getElem_of_mem hb
          rw [List.length_drop] at hi
          rw [List.getElem_drop]
          have := (r2 (q + 1 + i) (by omega) (by omega)).2
          rw [gD (by omega)] at this
          exact this
      · rw [if_neg (by omega)]
        have e3 : zI (((q + 1 : Nat) : Int) + -1) = zI (q : Nat) := zI_congr (by omega)
        first | rw [e3] | skip
        refine ih _ (by omega) e1 (fr.tr (Fr.sr (isPl_of (by decide)))) (fun i hi => ?_) (fun i hi hi2 => ?_)
        · show (if (9, p, 0) = (9, p, 0) ∧ i = q + 1 then _ else μ1.2.2 (9, p, 0) i) = _
          rw [if_neg (by simp; omega)]
          exact r1 i (by omega)
        · show (if (9, p, 0) = (9, p, 0) ∧ i + 1 = q + 1 then _ else μ1.2.2 (9, p, 0) (i + 1)) = _ ∧ _
          by_cases e : i = q
          · subst e
            rw [if_pos ⟨rfl, rfl⟩]
            exact ⟨rfl, by omega⟩
          · rw [if_neg (by simp [e])]
            exact r2 i (by omega) hi2
  rw [qe_Plan_sortIn (h0 := qd5 hp) (h1 := qd6 hp hc), qb_Plan_sortIn_0, q1]
  simp (disch := omega) only [zI_of, zI_0, zI_1, zI_add, zI_sub, zI_mul, zI_neg, zI_lt, zI_le, zI_eq, zI_rem, zI_oob, zI_ixN, zI_ix, zI_ite, zI10, zI01, Int.toNat_natCast, cond_false, cond_true, q01_0, q01_1, q01_0z, q01_1z, qB_if, qB_ifz, qB_ret, qB_retz, qbI_some, qbV_some, qbL_some, qbR_some, qbN_some, qbN_none, true_or, or_true, false_or, or_false, if_true, if_false, Int.reduceEq, Int.reduceLT, Int.reduceLE, Int.reduceNeg, qb_Plan_sortIn_17, q1]
  rw [if_neg (by omega), if_pos (by omega)]
  exact L Q.length μ (Nat.le_refl _) rfl Fr.rf q2 (fun i h1 h2 => absurd h2 (by omega))
