/-! the reference lays all days -/
def ML (μ : QM) (s : AS) (m : Nat) (D : Nat → Nat) (O : Nat) : Prop := PDm μ m D ∧ μ.1 (24, 0, 0) 29 = zI (O : Nat) ∧ O < 4096 ∧ ∀ k, k ≤ m → ∀ S, S &&& O = S → μ.1 (43, 0, 0) (4096 * k + S) = zI (vW s m D (m - k) S : Nat)
theorem nD_wd {s : AS} {w wd i : Nat} (h : wd ≤ 6) : nD s w wd i % 7 = wd := by
  unfold nD n0
  omega
theorem c_M_findLaid (d : Nat) {w n : Nat} {s : AS} {μ : QM} (h : RM μ s) (ok : aOK s) (hw : w < 2) (hn : aD s ≤ n) (hn2 : n ≤ 83) :
    ∃ μ', qcall qprogs (d + 5) 200 [qR (24, 0, 0), qI (zI (w : Nat)), qI (zI (n : Nat))] μ = some (none, μ') ∧ FrQ μ μ' ∧ ML μ' s (nM s w (aP s w 0) n) (nD s w (aP s w 0)) (ownS s w (nM s w (aP s w 0) n) (nD s w (aP s w 0))) := by
  obtain ⟨μ1, r1, f1, P1⟩ := c_M_findNeeds (d + 3) h ok hw hn hn2
  have hwd : ∀ i, i < nM s w (aP s w 0) n → nD s w (aP s w 0) i % 7 = aP s w 0 := fun i _ => nD_wd (ok.p hw).1
  generalize nM s w (aP s w 0) n = m at *
  generalize nD s w (aP s w 0) = D at *
  obtain ⟨μ2, r2, f2, o2, P2⟩ := c_M_findOwn d (h.q f1) ok hw P1 hwd
  have O4 := ownS_lt (s := s) (w := w) (m := m) (D := D) ok.2.1
  have hO : ∀ c, (ownS s w m D).testBit c = true → c < aN s ∧ ∀ i, i < m → aG s c (D i) = aF s c (D i) := fun c hc => by
    obtain ⟨a1, a2, -⟩ := ownS_b hc
    exact ⟨a1, fun i hi => aG_wd a2 (hwd i hi)⟩
  generalize ownS s w m D = O at *
  have f12 := f1.tr f2
  have m12 := P2.1
  have L2 : ∀ r μ3, r ≤ m → FrQ μ μ3 → PDm μ3 m D → μ3.1 (24, 0, 0) 29 = zI (O : Nat) → (∀ k, r ≤ k → k ≤ m → ∀ S, S &&& O = S → μ3.1 (43, 0, 0) (4096 * k + S) = zI (vW s m D (m - k) S : Nat)) →
      ∃ μ', qx (d + 4) qc_M_findLaid 49 [some (qR (24, 0, 0)), none, none, some (qI (zI ((r : Int) - 1)))] [] μ3 = some (none, μ') ∧ FrQ μ μ' ∧ ML μ' s m D O := by
    intro r
    induction r with
    | zero =>
      intro μ3 hr fr hP ho hB
      rw [qb_M_findLaid_49]
      simp (disch := omega) only [zI_of, zI_0, zI_1, zI_add, zI_sub, zI_mul, zI_neg, zI_lt, zI_le, zI_eq, zI_rem, zI_oob, zI_ixN, zI_ix, zI_ite, zI10, zI01, Int.toNat_natCast, cond_false, cond_true, q01_0, q01_1, q01_0z, q01_1z, qB_if, qB_ifz, qB_ret, qB_retz, qbI_some, qbV_some, qbL_some, qbR_some, qbN_some, qbN_none, true_or, or_true, false_or, or_false, if_true, if_false, Int.reduceEq, Int.reduceLT, Int.reduceLE, Int.reduceNeg, qb_M_findLaid_64]
      rw [if_pos (by omega)]
      exact ⟨μ3, rfl, fr, hP, ho, O4, fun k hk => hB k (Nat.zero_le _) hk⟩
    | succ r ih =>
      intro μ3 hr fr hP ho hB
      obtain ⟨μ4, q1, q2, q3⟩ := c_M_laysDay d (k := r) (h.q fr) ok hP (by omega) ho O4 hO (hB (r + 1) (Nat.le_refl _) (by omega))
      have e : (((r + 1 : Nat) : Int) - 1) = (r : Nat) := by omega
      rw [qb_M_findLaid_49, e, q1, qbV_some]
      simp (disch := omega) only [zI_of, zI_0, zI_1, zI_add, zI_sub, zI_mul, zI_neg, zI_lt, zI_le, zI_eq, zI_rem, zI_oob, zI_ixN, zI_ix, zI_ite, zI10, zI01, Int.toNat_natCast, cond_false, cond_true, q01_0, q01_1, q01_0z, q01_1z, qB_if, qB_ifz, qB_ret, qB_retz, qbI_some, qbV_some, qbL_some, qbR_some, qbN_some, qbN_none, true_or, or_true, false_or, or_false, if_true, if_false, Int.reduceEq, Int.reduceLT, Int.reduceLE, Int.reduceNeg]
      rw [if_neg (by omega), show zI ((r : Int) + -1) = zI ((r : Int) - 1) from rfl]
      refine ih μ4 (by omega) (fr.tr q2.q) (hP.congr (by rw [q2.1 _ (by simp)]) (q2.1 _ (by simp))) (by rw [q2.1 _ (by simp)]; exact ho) fun k hk hk2 S hS => ?_
      by_cases z : k = r
      · subst z; exact q3 S hS
      · rw [q2.2.2 _ (Or.inr (by omega))]
        exact hB k (by omega) hk2 S hS
  have L1 : ∀ r x μ3, x + r = 4096 → FrQ μ μ3 → PDm μ3 m D → μ3.1 (24, 0, 0) 29 = zI (O : Nat) → (∀ y, y < x → μ3.1 (43, 0, 0) (4096 * m + y) = zI 0) →
      ∃ μ', qx (d + 4) qc_M_findLaid 13 [some (qR (24, 0, 0)), none, none, some (qI (zI (x : Nat)))] [] μ3 = some (none, μ') ∧ FrQ μ μ' ∧ ML μ' s m D O := by
    intro r
    induction r with
    | zero =>
      intro x μ3 hx fr hP ho hB
      rw [qb_M_findLaid_13]
      simp (disch := omega) only [zI_of, zI_0, zI_1, zI_add, zI_sub, zI_mul, zI_neg, zI_lt, zI_le, zI_eq, zI_rem, zI_oob, zI_ixN, zI_ix, zI_ite, zI10, zI01, Int.toNat_natCast, cond_false, cond_true, q01_0, q01_1, q01_0z, q01_1z, qB_if, qB_ifz, qB_ret, qB_retz, qbI_some, qbV_some, qbL_some, qbR_some, qbN_some, qbN_none, true_or, or_true, false_or, or_false, if_true, if_false, Int.reduceEq, Int.reduceLT, Int.reduceLE, Int.reduceNeg]
      rw [if_pos (by omega), qb_M_findLaid_42, hP.2.1, zI_of, zI_sub]
      refine L2 m μ3 (Nat.le_refl _) fr hP ho fun k hk hk2 S hS => ?_
      have S4 : S < 4096 := by rw [← hS]; exact Nat.lt_of_le_of_lt Nat.and_le_right O4
      rw [show k = m by omega, hB S (by omega), Nat.sub_self]
      rfl
    | succ r ih =>
      intro x μ3 hx fr hP ho hB
      have e1 : (Int32.ofInt 4096 * zI (m : Nat)) + zI (x : Nat) = zI ((4096 * m + x : Nat) : Int) := by
        simp (disch := omega) only [zI_of, zI_add, zI_mul]
        refine zI_congr ?_
        omega
      rw [qb_M_findLaid_13, hP.2.1, e1, zI_oob (n := 53248) (by omega), cond_false, show qix (zI ((4096 * m + x : Nat) : Int)) = 4096 * m + x from zI_ixN (by omega), zI_of]
      simp (disch := omega) only [zI_of, zI_0, zI_1, zI_add, zI_sub, zI_mul, zI_neg, zI_lt, zI_le, zI_eq, zI_rem, zI_oob, zI_ixN, zI_ix, zI_ite, zI10, zI01, Int.toNat_natCast, cond_false, cond_true, q01_0, q01_1, q01_0z, q01_1z, qB_if, qB_ifz, qB_ret, qB_retz, qbI_some, qbV_some, qbL_some, qbR_some, qbN_some, qbN_none, true_or, or_true, false_or, or_false, if_true, if_false, Int.reduceEq, Int.reduceLT, Int.reduceLE, Int.reduceNeg]
      rw [if_neg (by omega)]
      refine ih (x + 1) _ (by omega) (fr.tr (FrQ.row (by decide))) (hP.congr (by rw [qsi_ne (by simp)]) (qsi_ne (by simp))) (by rw [qsi_ne (by simp)]; exact ho) fun y hy => ?_
      rw [qsi_get]
      by_cases z : y = x
      · subst z; rw [if_pos ⟨rfl, rfl⟩]
      · rw [if_neg (by omega)]; exact hB y (by omega)
  rw [qe_M_findLaid, qb_M_findLaid_0, r1, qbV_some, r2, qbV_some]
  exact L1 4096 0 μ2 (by omega) f12 P2 o2 (fun y hy => absurd hy (by omega))
/-- only the causes that are good on a day count -/
theorem own_all {s : AS} {w m : Nat} {D : Nat → Nat} (hn : aN s ≤ 12) (b r : Nat) (hr : r ≤ m) : vW s m D r (nd (unS s w) b) = vW s m D r (nd (ownS s w m D) b) := by
  refine kV_congr r _ _ (Nat.lt_of_le_of_lt (nd_le _ _) (unS_lt hn)) (Nat.lt_of_le_of_lt (nd_le _ _) (ownS_lt hn)) (fun c i hc hi hi2 => ?_) hr
  rw [nd_bit, nd_bit]
  cases hg : gB s m D c i
  · simp
  · unfold unS ownS
    rw [mk_bit, mk_bit]
    have hf : aF s c (D i) = true := by unfold gB gdB at hg; rw [mk_bit, Bool.and_eq_true] at hg; exact hg.2
    rw [anyB_of m hi2 hf]
    cases aX s c <;> cases decide (aC s c 2 = w) <;> simp
theorem nd_0 {S : Nat} : nd S 0 = S &&& 4294967295 := by unfold nd; rw [Nat.zero_xor]
theorem nd_00 {S : Nat} (h : S < 4096) : nd S 0 = S := by
  rw [nd_0, show 4294967295 = 2 ^ 32 - 1 from rfl, Nat.and_two_pow_sub_one_eq_mod]
  omega
theorem own_un {s : AS} {w m : Nat} {D : Nat → Nat} (hn : aN s ≤ 12) (r : Nat) (hr : r ≤ m) : vW s m D r (unS s w) = vW s m D r (ownS s w m D) := by
  have := own_all (s := s) (w := w) (D := D) hn 0 r hr
  rw [nd_00 (unS_lt hn), nd_00 (ownS_lt hn)] at this
  exact this
theorem c_M_laidValue (d : Nat) {w n : Nat} {s : AS} {μ : QM} (h : RM μ s) (ok : aOK s) (hw : w < 2) (hn : aD s ≤ n) (hn2 : n ≤ 83) :
    ∃ μ', qcall qprogs (d + 6) 202 [qR (24, 0, 0), qI (zI (w : Nat)), qI (zI (n : Nat))] μ = some (some (qI (zI (lV s w (aP s w 0) n : Nat))), μ') ∧ FrQ μ μ' ∧ ML μ' s (nM s w (aP s w 0) n) (nD s w (aP s w 0)) (ownS s w (nM s w (aP s w 0) n) (nD s w (aP s w 0))) := by
  obtain ⟨μ1, r1, f1, P1⟩ := c_M_findLaid d h ok hw hn hn2
  refine ⟨μ1, ?_, f1, P1⟩
  obtain ⟨p1, p2, p3, p4⟩ := P1
  have b := p4 0 (Nat.zero_le _) _ (Nat.and_self _)
  rw [Nat.mul_zero, Nat.zero_add, Nat.sub_zero] at b
  rw [qe_M_laidValue, qb_M_laidValue_0, r1, qbV_some, p2, zI_oob (n := 53248) (by omega), cond_false, show qix (zI (ownS s w (nM s w (aP s w 0) n) (nD s w (aP s w 0)) : Nat)) = ownS s w (nM s w (aP s w 0) n) (nD s w (aP s w 0)) from zI_ixN (by omega), b]
  refine q_ret ?_
  unfold lV
  rw [own_un ok.2.1 _ (Nat.le_refl _)]
def PHm (μ : QM) (s : AS) (w : Nat) (D : Nat → Nat) (m : Nat) : Prop := ∀ i, i < m → μ.1 (42, 0, 0) i = zI (onM (hH s w D i))
theorem onM_ge {o : Option Nat} {α : Type} (x y : α) (ho : ∀ b, o = some b → b < 100) : (if (0 : Int32) ≤ zI (onM o) then x else y) = if o = none then y else x := by
  cases o with
  | none =>
    rw [show onM none = -9 from rfl, if_neg (by rw [zI_0, zI_le (by omega)]; omega), if_pos rfl]
  | some b =>
    have := ho b rfl
    rw [show onM (some b) = b from rfl, if_pos (by rw [zI_0, zI_le (by omega)]; omega), if_neg (by simp)]
theorem onM_lt {o : Option Nat} {α : Type} (x y : α) (ho : ∀ b, o = some b → b < 100) : (if zI (onM o) < (0 : Int32) then x else y) = if o = none then x else y := by
  cases o with
  | none =>
    rw [show onM none = -9 from rfl, if_pos (by rw [zI_0, zI_lt (by omega)]; omega), if_pos rfl]
  | some b =>
    have := ho b rfl
    rw [show onM (some b) = b from rfl, if_neg (by rw [zI_0, zI_lt (by omega)]; omega), if_neg (by simp)]
theorem c_M_findHand (d : Nat) {w n : Nat} {s : AS} {μ : QM} (h : RM μ s) (ok : aOK s) (hw : w < 2) (hn : aD s ≤ n) (hn2 : n ≤ 83) :
    ∃ μ', qcall qprogs (d + 5) 193 [qR (24, 0, 0), qI (zI (w : Nat)), qI (zI (n : Nat))] μ = some (none, μ') ∧ FrQ μ μ' ∧ PDm μ' (nM s w (aP s w 0) n) (nD s w (aP s w 0)) ∧ PHm μ' s w (nD s w (aP s w 0)) (nM s w (aP s w 0) n) := by
  obtain ⟨μ1, r1, f1, P1⟩ := c_M_findNeeds (d + 3) h ok hw hn hn2
  have hwd : ∀ i, i < nM s w (aP s w 0) n → nD s w (aP s w 0) i % 7 = aP s w 0 := fun i _ => nD_wd (ok.p hw).1
  generalize nM s w (aP s w 0) n = m at *
  generalize nD s w (aP s w 0) = D at *
  have m12 := P1.1
  have n12 := ok.2.1
  have L : ∀ r i μ2, i + r = m → FrQ μ μ2 → PDm μ2 m D → (∀ j, j < i → μ2.1 (42, 0, 0) j = zI (onM (hH s w D j))) →
      ∃ μ', qx (d + 4) qc_M_findHand 11 [some (qR (24, 0, 0)), some (qI (zI (w : Nat))), none, some (qI (zI (hT s w D i : Nat))), some (qI (zI (i : Nat)))] [] μ2 = some (none, μ') ∧ FrQ μ μ' ∧ PDm μ' m D ∧ PHm μ' s w D m := by
    intro r
    induction r with
    | zero =>
      intro i μ2 hi fr hP hh
      rw [qb_M_findHand_11, hP.2.1]
      simp (disch := omega) only [zI_of, zI_0, zI_1, zI_add, zI_sub, zI_mul, zI_neg, zI_lt, zI_le, zI_eq, zI_rem, zI_oob, zI_ixN, zI_ix, zI_ite, zI10, zI01, Int.toNat_natCast, cond_false, cond_true, q01_0, q01_1, q01_0z, q01_1z, qB_if, qB_ifz, qB_ret, qB_retz, qbI_some, qbV_some, qbL_some, qbR_some, qbN_some, qbN_none, true_or, or_true, false_or, or_false, if_true, if_false, Int.reduceEq, Int.reduceLT, Int.reduceLE, Int.reduceNeg, qb_M_findHand_72]
      rw [if_pos (by omega)]
      exact ⟨μ2, rfl, fr, hP, fun j hj => hh j (by omega)⟩
    | succ r ih =>
      intro i μ2 hi fr hP hh
      obtain ⟨q1, q2⟩ := hP.2.2 i (by omega)
      have tl := hT_lt (s := s) (w := w) (D := D) n12 i
      have sS := c_M_soonestSour d (x := D i) (T := hT s w D i) (h.q fr) ok hw q1 (hwd i (by omega)) (by omega)
      rw [show hndF s w (D i) (hT s w D i).testBit (aN s) = hH s w D i from rfl] at sS
      have wr : ∀ j, j < i + 1 → (qsi μ2 (42, 0, 0) i (zI (onM (hH s w D i)))).1 (42, 0, 0) j = zI (onM (hH s w D j)) := fun j hj => by
        rw [qsi_get]
        by_cases e : j = i
        · subst e; rw [if_pos ⟨rfl, rfl⟩]
        · rw [if_neg (by omega)]; exact hh j (by omega)
      have fr2 : FrQ μ (qsi μ2 (42, 0, 0) i (zI (onM (hH s w D i)))) := fr.tr (FrQ.row (by decide))
      have hP2 : PDm (qsi μ2 (42, 0, 0) i (zI (onM (hH s w D i)))) m D := hP.congr (by rw [qsi_ne (by simp)]) (qsi_ne (by simp))
      rw [qb_M_findHand_11, hP.2.1, zI_oob (n := 12) (by omega), cond_false, show qix (zI (i : Nat)) = i from zI_ixN (by omega), q2, sS, qbI_some, cond_false, cond_false, qsi_self, onM_ge _ _ (fun b hb => by have := hH_lt hb; omega), if_neg (by rw [zI_le (by omega)]; omega)]
      cases hq : hH s w D i with
      | none =>
        rw [hq] at wr fr2 hP2
        rw [if_pos rfl, qb_M_findHand_64, zI_of, show zI (0 : Int) = zI ((0 : Nat) : Int) from rfl, zI_or, Nat.or_zero]
        have i1 := ih (i + 1) _ (by omega) fr2 hP2 wr
        rw [hT_s, hq] at i1
        simp (disch := omega) only [zI_of, zI_0, zI_1, zI_add, zI_sub, zI_mul, zI_neg, zI_lt, zI_le, zI_eq, zI_rem, zI_oob, zI_ixN, zI_ix, zI_ite, zI10, zI01, Int.toNat_natCast, cond_false, cond_true, q01_0, q01_1, q01_0z, q01_1z, qB_if, qB_ifz, qB_ret, qB_retz, qbI_some, qbV_some, qbL_some, qbR_some, qbN_some, qbN_none, true_or, or_true, false_or, or_false, if_true, if_false, Int.reduceEq, Int.reduceLT, Int.reduceLE, Int.reduceNeg]
        exact i1
      | some c =>
        rw [hq] at wr fr2 hP2
        have cn := hH_lt hq
        have v0 := wr i (by omega)
        rw [hq] at v0
        rw [if_neg (by simp), qb_M_findHand_55, zI_oob (n := 12) (by omega), cond_false, show qix (zI (i : Nat)) = i from zI_ixN (by omega), v0, show onM (some c) = (c : Nat) from rfl, qb_M_findHand_64]
        have i1 := ih (i + 1) _ (by omega) fr2 hP2 wr
        rw [hT_s, hq] at i1
        simp (disch := omega) only [zI_of, zI_0, zI_1, zI_add, zI_sub, zI_mul, zI_neg, zI_lt, zI_le, zI_eq, zI_rem, zI_oob, zI_ixN, zI_ix, zI_ite, zI10, zI01, Int.toNat_natCast, cond_false, cond_true, q01_0, q01_1, q01_0z, q01_1z, qB_if, qB_ifz, qB_ret, qB_retz, qbI_some, qbV_some, qbL_some, qbR_some, qbN_some, qbN_none, true_or, or_true, false_or, or_false, if_true, if_false, Int.reduceEq, Int.reduceLT, Int.reduceLE, Int.reduceNeg, zI_31, zI_bit, zI_or]
        exact i1
  rw [qe_M_findHand, qb_M_findHand_0, r1, qbV_some, zI_of]
  exact L m 0 μ1 (by omega) f1 P1 (fun j hj => absurd hj (by omega))
