/-! the reference lays a day, all days -/
def FrY (k : Nat) (μ μ' : QM) : Prop := (∀ a, a ≠ (43, 0, 0) → μ'.1 a = μ.1 a) ∧ μ'.2 = μ.2 ∧ ∀ x, (x < 4096 * k ∨ 4096 * (k + 1) ≤ x) → μ'.1 (43, 0, 0) x = μ.1 (43, 0, 0) x
theorem FrY.rf {k : Nat} {μ : QM} : FrY k μ μ := ⟨fun _ _ => rfl, rfl, fun _ _ => rfl⟩
theorem FrY.si {k x : Nat} {μ μ1 : QM} {v : Int32} (h : FrY k μ μ1) (hx : 4096 * k ≤ x ∧ x < 4096 * (k + 1)) : FrY k μ (qsi μ1 (43, 0, 0) x v) := ⟨fun a ha => by rw [qsi_ne ha]; exact h.1 a ha, h.2.1, fun y hy => by rw [qsi_get, if_neg (by omega)]; exact h.2.2 y hy⟩
theorem FrY.q {k : Nat} {μ μ' : QM} (h : FrY k μ μ') : FrQ μ μ' := ⟨⟨fun a ha => h.1 a (fun e => ha (by rw [e]; exact Or.inr (by decide))), fun a _ => by rw [h.2.1], fun a _ => by rw [h.2.1]⟩, fun k _ _ => by rw [h.1 _ (by simp)]⟩
theorem zI_m1and {O : Nat} (h : O < 4096) : zI (-1) &&& zI (O : Nat) = zI (O : Nat) := by
  rw [show zI (-1) = zI ((4294967295 : Nat) : Int) by decide +kernel, zI_and]
  refine zI_congr ?_
  rw [show 4294967295 = 2 ^ 32 - 1 from rfl, Nat.and_comm, Nat.and_two_pow_sub_one_eq_mod]
  omega
theorem c_M_valueWith (d : Nat) {k S c x : Nat} {s : AS} {μ : QM} (h : RM μ s) (ok : aOK s) (hc : c < aN s) (hk : k ≤ 11) (hS : S < 4096) (hx : μ.1 (43, 0, 0) (4096 * (k + 1) + nd S (2 ^ c)) = zI (x : Nat)) :
    qcall qprogs (d + 2) 197 [qR (24, 0, 0), qI (zI (k : Nat)), qI (zI (S : Nat)), qI (zI (c : Nat))] μ = some (some (qI (zI ((x + fW s c : Nat) : Int))), μ) := by
  have h12 := ok.2.1
  have hn := nd_le S (2 ^ c)
  have e1 : (Int32.ofInt 4096 * (zI (k : Nat) + Int32.ofInt 1)) + (zI (S : Nat) &&& (((Int32.ofInt 1) <<< (zI (c : Nat) &&& 31)) ^^^ (Int32.ofInt (-1)))) = zI ((4096 * (k + 1) + nd S (2 ^ c) : Nat) : Int) := by
    simp (disch := omega) only [zI_of, zI_add, zI_mul, zI_31, zI_bit, zI_nd]
    refine zI_congr ?_
    omega
  rw [qe_M_valueWith, qb_M_valueWith_0, e1, zI_oob (n := 53248) (by omega), cond_false, c_M_weightOf d h ok hc, qbI_some, show qix (zI ((4096 * (k + 1) + nd S (2 ^ c) : Nat) : Int)) = 4096 * (k + 1) + nd S (2 ^ c) from zI_ixN (by omega), hx, zI_of, zI_add, zI_add]
  refine q_ret ?_
  unfold fW
  omega
theorem c_M_laysDay (d : Nat) {k m O : Nat} {D : Nat → Nat} {s : AS} {μ : QM} (h : RM μ s) (ok : aOK s) (hP : PDm μ m D) (hk : k < m) (ho : μ.1 (24, 0, 0) 29 = zI (O : Nat)) (hO2 : O < 4096) (hO : ∀ c, O.testBit c = true → c < aN s ∧ ∀ i, i < m → aG s c (D i) = aF s c (D i))
    (hB : ∀ S, S &&& O = S → μ.1 (43, 0, 0) (4096 * (k + 1) + S) = zI (vW s m D (m - (k + 1)) S : Nat)) :
    ∃ μ', qcall qprogs (d + 4) 199 [qR (24, 0, 0), qI (zI (k : Nat))] μ = some (none, μ') ∧ FrY k μ μ' ∧ ∀ S, S &&& O = S → μ'.1 (43, 0, 0) (4096 * k + S) = zI (vW s m D (m - k) S : Nat) := by
  have h12 := ok.2.1
  obtain ⟨m12, p2, p3⟩ := hP
  have gd : ∀ c, (mk (fun c => O.testBit c && gB s m D c k) (aN s)).testBit c = (O.testBit c && gB s m D c k) := fun c => by
    rw [mk_bit]
    cases hb : O.testBit c
    · simp
    · simp [(hO c hb).1]
  have gdlt := p31 (mk_lt (fun c => O.testBit c && gB s m D c k) (aN s)) (by omega)
  have L1 : ∀ r c, c + r = aN s → qx (d + 3) qc_M_laysDay 4 [some (qR (24, 0, 0)), some (qI (zI (k : Nat))), some (qI (zI (mk (fun c => O.testBit c && gB s m D c k) c : Nat))), some (qI (zI (c : Nat))), none, none, none] [] μ = qx (d + 3) qc_M_laysDay 53 [some (qR (24, 0, 0)), some (qI (zI (k : Nat))), some (qI (zI (mk (fun c => O.testBit c && gB s m D c k) (aN s) : Nat))), none, none, none, none] [] μ := by
    intro r
    induction r with
    | zero =>
      intro c hc
      rw [qb_M_laysDay_4, h.cnt]
      simp (disch := omega) only [zI_of, zI_0, zI_1, zI_add, zI_sub, zI_mul, zI_neg, zI_lt, zI_le, zI_eq, zI_rem, zI_oob, zI_ixN, zI_ix, zI_ite, zI10, zI01, Int.toNat_natCast, cond_false, cond_true, q01_0, q01_1, q01_0z, q01_1z, qB_if, qB_ifz, qB_ret, qB_retz, qbI_some, qbV_some, qbL_some, qbR_some, qbN_some, qbN_none, true_or, or_true, false_or, or_false, if_true, if_false, Int.reduceEq, Int.reduceLT, Int.reduceLE, Int.reduceNeg]
      rw [if_pos (by omega), show c = aN s by omega]
    | succ r ih =>
      intro c hc
      have hcn : c < aN s := by omega
      have i1 := ih (c + 1) (by omega)
      have lt := p31 (mk_lt (fun c => O.testBit c && gB s m D c k) c) (by omega)
      have no : (O.testBit c && gB s m D c k) = false → qx (d + 3) qc_M_laysDay 44 [some (qR (24, 0, 0)), some (qI (zI (k : Nat))), none, some (qI (zI (c : Nat))), none, none, none] [qI (zI (mk (fun c => O.testBit c && gB s m D c k) c : Nat))] μ = qx (d + 3) qc_M_laysDay 53 [some (qR (24, 0, 0)), some (qI (zI (k : Nat))), some (qI (zI (mk (fun c => O.testBit c && gB s m D c k) (aN s) : Nat))), none, none, none, none] [] μ := fun hb => by
        rw [mk_f (by exact hb)] at i1
        rw [qb_M_laysDay_44, qb_M_laysDay_45, zI_of, zI_of, show zI (0 : Int) = zI ((0 : Nat) : Int) from rfl, zI_or, Nat.or_zero, zI_add]
        exact i1
      rw [qb_M_laysDay_4, h.cnt, ho, c_M_has (d + 2) (by omega) (by omega), qbI_some]
      obtain ⟨q1, q2⟩ := p3 k hk
      rw [if_neg (by rw [zI_le (by omega)]; omega)]
      cases hb : O.testBit c
      · rw [if_pos (by decide)]
        exact no (by rw [hb]; rfl)
      · rw [if_neg (by decide), zI_oob (n := 12) (by omega), cond_false, show qix (zI (k : Nat)) = k from zI_ixN (by omega), q2, c_M_isGood d h ok hcn q1, qbI_some, (hO c hb).2 k hk]
        have eg : gB s m D c k = aF s c (D k) := by unfold gB gdB; rw [mk_bit, decide_eq_true hk, Bool.true_and]
        cases hf : aF s c (D k)
        · rw [if_pos (by decide)]
          exact no (by rw [eg, hf, Bool.and_false])
        · rw [if_neg (by decide), qb_M_laysDay_45]
          rw [mk_t (by rw [hb, eg, hf]; rfl)] at i1
          simp (disch := omega) only [zI_of, zI_0, zI_1, zI_add, zI_sub, zI_mul, zI_neg, zI_lt, zI_le, zI_eq, zI_rem, zI_oob, zI_ixN, zI_ix, zI_ite, zI10, zI01, Int.toNat_natCast, cond_false, cond_true, q01_0, q01_1, q01_0z, q01_1z, qB_if, qB_ifz, qB_ret, qB_retz, qbI_some, qbV_some, qbL_some, qbR_some, qbN_some, qbN_none, true_or, or_true, false_or, or_false, if_true, if_false, Int.reduceEq, Int.reduceLT, Int.reduceLE, Int.reduceNeg, zI_31, zI_bit, zI_or, mk_or]
          exact i1
  have inner : ∀ S μ1, S &&& O = S → FrY k μ μ1 → qx (d + 3) qc_M_laysDay 58 [some (qR (24, 0, 0)), some (qI (zI (k : Nat))), some (qI (zI (mk (fun c => O.testBit c && gB s m D c k) (aN s) : Nat))), some (qI (zI (S : Nat))), none, none, none] [] μ1 = qx (d + 3) qc_M_laysDay 133 [some (qR (24, 0, 0)), some (qI (zI (k : Nat))), some (qI (zI (mk (fun c => O.testBit c && gB s m D c k) (aN s) : Nat))), some (qI (zI (S : Nat))), some (qI (zI (vW s m D (m - k) S : Nat))), none, none] [] μ1 := by
    intro S μ1 hS fr
    have hR := h.q fr.q
    have S4 : S < 4096 := by rw [← hS]; exact Nat.lt_of_le_of_lt Nat.and_le_right hO2
    have hB1 : ∀ T, T &&& O = T → μ1.1 (43, 0, 0) (4096 * (k + 1) + T) = zI (vW s m D (m - (k + 1)) T : Nat) := fun T hT => by rw [fr.2.2 _ (Or.inr (by omega))]; exact hB T hT
    have e0 : m - (m - (k + 1) + 1) = k := by omega
    have L3 : ∀ r c, c + r = aN s → qx (d + 3) qc_M_laysDay 77 [some (qR (24, 0, 0)), some (qI (zI (k : Nat))), some (qI (zI (mk (fun c => O.testBit c && gB s m D c k) (aN s) : Nat))), some (qI (zI (S : Nat))), some (qI (zI (imx (fun c => if S.testBit c = true ∧ gB s m D c k = true then vW s m D (m - (k + 1)) (nd S (2 ^ c)) + fW s c else 0) (vW s m D (m - (k + 1)) S) c : Nat))), some (qI (zI (c : Nat))), none] [] μ1 =
        qx (d + 3) qc_M_laysDay 133 [some (qR (24, 0, 0)), some (qI (zI (k : Nat))), some (qI (zI (mk (fun c => O.testBit c && gB s m D c k) (aN s) : Nat))), some (qI (zI (S : Nat))), some (qI (zI (imx (fun c => if S.testBit c = true ∧ gB s m D c k = true then vW s m D (m - (k + 1)) (nd S (2 ^ c)) + fW s c else 0) (vW s m D (m - (k + 1)) S) (aN s) : Nat))), none, none] [] μ1 := by
      intro r
      induction r with
      | zero =>
        intro c hc
        rw [qb_M_laysDay_77, hR.cnt]
        simp (disch := omega) only [zI_of, zI_0, zI_1, zI_add, zI_sub, zI_mul, zI_neg, zI_lt, zI_le, zI_eq, zI_rem, zI_oob, zI_ixN, zI_ix, zI_ite, zI10, zI01, Int.toNat_natCast, cond_false, cond_true, q01_0, q01_1, q01_0z, q01_1z, qB_if, qB_ifz, qB_ret, qB_retz, qbI_some, qbV_some, qbL_some, qbR_some, qbN_some, qbN_none, true_or, or_true, false_or, or_false, if_true, if_false, Int.reduceEq, Int.reduceLT, Int.reduceLE, Int.reduceNeg]
        rw [if_pos (by omega), show c = aN s by omega]
      | succ r ih =>
        intro c hc
        have hcn : c < aN s := by omega
        have i1 := ih (c + 1) (by omega)
        have ihv : ∀ c', c' ≤ aN s → imx (fun c => if S.testBit c = true ∧ gB s m D c k = true then vW s m D (m - (k + 1)) (nd S (2 ^ c)) + fW s c else 0) (vW s m D (m - (k + 1)) S) c' ≤ 20000 := fun c' hc' => by
          refine imx_lt (by have := vW_le ok (m := m) (D := D) (r := m - (k + 1)) (S := S) (by omega); omega) c' fun x hx => ?_
          split
          · have q1 := vW_le ok (m := m) (D := D) (r := m - (k + 1)) (S := nd S (2 ^ x)) (by omega)
            have q2 := ok.w (c := x) (by omega)
            unfold fW
            omega
          · omega
        have b1 := ihv c (by omega)
        have fin : ∀ v, v = (if S.testBit c = true ∧ gB s m D c k = true then vW s m D (m - (k + 1)) (nd S (2 ^ c)) + fW s c else 0) → v ≤ 20000 → qx (d + 3) qc_M_laysDay 109 [some (qR (24, 0, 0)), some (qI (zI (k : Nat))), some (qI (zI (mk (fun c => O.testBit c && gB s m D c k) (aN s) : Nat))), some (qI (zI (S : Nat))), some (qI (zI (imx (fun c => if S.testBit c = true ∧ gB s m D c k = true then vW s m D (m - (k + 1)) (nd S (2 ^ c)) + fW s c else 0) (vW s m D (m - (k + 1)) S) c : Nat))), some (qI (zI (c : Nat))), none] [qI (zI (v : Nat))] μ1 =
            qx (d + 3) qc_M_laysDay 133 [some (qR (24, 0, 0)), some (qI (zI (k : Nat))), some (qI (zI (mk (fun c => O.testBit c && gB s m D c k) (aN s) : Nat))), some (qI (zI (S : Nat))), some (qI (zI (imx (fun c => if S.testBit c = true ∧ gB s m D c k = true then vW s m D (m - (k + 1)) (nd S (2 ^ c)) + fW s c else 0) (vW s m D (m - (k + 1)) S) (aN s) : Nat))), none, none] [] μ1 := fun v hv hv2 => by
          have ei : imx (fun c => if S.testBit c = true ∧ gB s m D c k = true then vW s m D (m - (k + 1)) (nd S (2 ^ c)) + fW s c else 0) (vW s m D (m - (k + 1)) S) (c + 1) = max (imx (fun c => if S.testBit c = true ∧ gB s m D c k = true then vW s m D (m - (k + 1)) (nd S (2 ^ c)) + fW s c else 0) (vW s m D (m - (k + 1)) S) c) v := by rw [hv]; rfl
          rw [ei] at i1
          generalize imx (fun c => if S.testBit c = true ∧ gB s m D c k = true then vW s m D (m - (k + 1)) (nd S (2 ^ c)) + fW s c else 0) (vW s m D (m - (k + 1)) S) c = M0 at *
          rw [qb_M_laysDay_109]
          by_cases e : v ≤ M0
          · rw [if_pos (by rw [zI_le (by omega)]; omega), qb_M_laysDay_123, qb_M_laysDay_125]
            rw [Nat.max_eq_left e] at i1
            simp (disch := omega) only [zI_of, zI_0, zI_1, zI_add, zI_sub, zI_mul, zI_neg, zI_lt, zI_le, zI_eq, zI_rem, zI_oob, zI_ixN, zI_ix, zI_ite, zI10, zI01, Int.toNat_natCast, cond_false, cond_true, q01_0, q01_1, q01_0z, q01_1z, qB_if, qB_ifz, qB_ret, qB_retz, qbI_some, qbV_some, qbL_some, qbR_some, qbN_some, qbN_none, true_or, or_true, false_or, or_false, if_true, if_false, Int.reduceEq, Int.reduceLT, Int.reduceLE, Int.reduceNeg]
            exact i1
          · rw [if_neg (by rw [zI_le (by omega)]; omega), qb_M_laysDay_125]
            rw [Nat.max_eq_right (by omega)] at i1
            simp (disch := omega) only [zI_of, zI_0, zI_1, zI_add, zI_sub, zI_mul, zI_neg, zI_lt, zI_le, zI_eq, zI_rem, zI_oob, zI_ixN, zI_ix, zI_ite, zI10, zI01, Int.toNat_natCast, cond_false, cond_true, q01_0, q01_1, q01_0z, q01_1z, qB_if, qB_ifz, qB_ret, qB_retz, qbI_some, qbV_some, qbL_some, qbR_some, qbN_some, qbN_none, true_or, or_true, false_or, or_false, if_true, if_false, Int.reduceEq, Int.reduceLT, Int.reduceLE, Int.reduceNeg]
            exact i1
        rw [qb_M_laysDay_77, hR.cnt, zI_and, c_M_has (d + 2) (Nat.lt_of_le_of_lt Nat.and_le_left (by omega)) (by omega), qbI_some, if_neg (by rw [zI_le (by omega)]; omega)]
        have hbit : (S &&& mk (fun c => O.testBit c && gB s m D c k) (aN s)).testBit c = (S.testBit c && gB s m D c k) := by
          rw [Nat.testBit_and, gd]
          cases hs : S.testBit c
          · rfl
          · rw [sub_bit hS hs]; rfl
        rw [hbit]
        cases hs : S.testBit c
        · rw [Bool.false_and, if_pos (by decide), qb_M_laysDay_108, zI_of]
          exact fin 0 (by rw [hs, if_neg (by simp)]) (by omega)
        · cases hg : gB s m D c k
          · rw [Bool.and_false, if_pos (by decide), qb_M_laysDay_108, zI_of]
            exact fin 0 (by rw [hg, if_neg (by simp)]) (by omega)
          · rw [Bool.and_true, if_neg (by decide), c_M_valueWith (d + 1) (x := vW s m D (m - (k + 1)) (nd S (2 ^ c))) hR ok hcn (by omega) S4 (hB1 _ (sub_of fun x hx => sub_bit hS (nd_sub hx))), qbI_some]
            have q1 := vW_le ok (m := m) (D := D) (r := m - (k + 1)) (S := nd S (2 ^ c)) (by omega)
            have q2 := ok.w hcn
            exact fin _ (by rw [hs, hg, if_pos ⟨rfl, rfl⟩]) (by unfold fW; omega)
    have e1 : (Int32.ofInt 4096 * (zI (k : Nat) + Int32.ofInt 1)) + zI (S : Nat) = zI ((4096 * (k + 1) + S : Nat) : Int) := by
      simp (disch := omega) only [zI_of, zI_add, zI_mul]
      refine zI_congr ?_
      omega
    have ev : vW s m D (m - k) S = imx (fun c => if S.testBit c = true ∧ gB s m D c k = true then vW s m D (m - (k + 1)) (nd S (2 ^ c)) + fW s c else 0) (vW s m D (m - (k + 1)) S) (aN s) := by
      have : m - k = m - (k + 1) + 1 := by omega
      rw [this]
      show imx _ _ (aN s) = _
      rw [e0]
      rfl
    rw [qb_M_laysDay_58, e1, zI_oob (n := 53248) (by omega), cond_false, show qix (zI ((4096 * (k + 1) + S : Nat) : Int)) = 4096 * (k + 1) + S from zI_ixN (by omega), hB1 S hS, zI_of, ev]
    exact L3 (aN s) 0 (by omega)
  have L2 : ∀ n S μ1, S < n → S &&& O = S → FrY k μ μ1 → (∀ T, T &&& O = T → S < T → μ1.1 (43, 0, 0) (4096 * k + T) = zI (vW s m D (m - k) T : Nat)) →
      ∃ μ', qx (d + 3) qc_M_laysDay 58 [some (qR (24, 0, 0)), some (qI (zI (k : Nat))), some (qI (zI (mk (fun c => O.testBit c && gB s m D c k) (aN s) : Nat))), some (qI (zI (S : Nat))), none, none, none] [] μ1 = some (none, μ') ∧ FrY k μ μ' ∧ ∀ S, S &&& O = S → μ'.1 (43, 0, 0) (4096 * k + S) = zI (vW s m D (m - k) S : Nat) := by
    intro n
    induction n with
    | zero => intro S μ1 hn; exact absurd hn (by omega)
    | succ n ih =>
      intro S μ1 hn hS fr hdone
      have S4 : S < 4096 := by rw [← hS]; exact Nat.lt_of_le_of_lt Nat.and_le_right hO2
      have SO : S ≤ O := by rw [← hS]; exact Nat.and_le_right
      have e1 : (Int32.ofInt 4096 * zI (k : Nat)) + zI (S : Nat) = zI ((4096 * k + S : Nat) : Int) := by
        simp (disch := omega) only [zI_of, zI_add, zI_mul]
        refine zI_congr ?_
        omega
      have fr2 : FrY k μ (qsi μ1 (43, 0, 0) (4096 * k + S) (zI (vW s m D (m - k) S : Nat))) := fr.si (by omega)
      have done2 : ∀ T, T &&& O = T → S ≤ T → (qsi μ1 (43, 0, 0) (4096 * k + S) (zI (vW s m D (m - k) S : Nat))).1 (43, 0, 0) (4096 * k + T) = zI (vW s m D (m - k) T : Nat) := fun T hT hle => by
        rw [qsi_get]
        by_cases e : T = S
        · subst e; rw [if_pos ⟨rfl, rfl⟩]
        · rw [if_neg (by omega)]
          exact hdone T hT (by omega)
      have own : (qsi μ1 (43, 0, 0) (4096 * k + S) (zI (vW s m D (m - k) S : Nat))).1 (24, 0, 0) 29 = zI (O : Nat) := by rw [fr2.1 _ (by simp)]; exact ho
      rw [inner S μ1 hS fr, qb_M_laysDay_133, e1, zI_oob (n := 53248) (by omega), cond_false, show qix (zI ((4096 * k + S : Nat) : Int)) = 4096 * k + S from zI_ixN (by omega), own, zI_of, zI_sub]
      by_cases z : S = 0
      · subst z
        rw [show zI (((0 : Nat) : Int) - 1) = zI (-1) from rfl, zI_m1and hO2, if_pos rfl]
        exact ⟨_, rfl, fr2, fun T hT => done2 T hT (Nat.zero_le _)⟩
      · have e2 : zI ((S : Int) - 1) = zI ((S - 1 : Nat) : Int) := zI_congr (by omega)
        have lt : (S - 1) &&& O ≤ S - 1 := Nat.and_le_left
        rw [e2, zI_and, if_neg (by rw [zI_eq (by omega)]; omega)]
        exact ih ((S - 1) &&& O) _ (by omega) (and_sub _ _) fr2 fun T hT hlt => done2 T hT (by
          by_cases q : T < S
          · have := sub_next (O + 1) O S T (by omega) hS hT q
            omega
          · omega)
  rw [qe_M_laysDay, qb_M_laysDay_0]
  simp only [zI_of]
  rw [show zI (0 : Int) = zI ((mk (fun c => O.testBit c && gB s m D c k) 0 : Nat) : Int) from rfl]
  have := L1 (aN s) 0 (by omega)
  rw [show zI ((0 : Nat) : Int) = zI ((mk (fun c => O.testBit c && gB s m D c k) 0 : Nat) : Int) from rfl] at this
  rw [this, qb_M_laysDay_53, ho]
  exact L2 (O + 1) O μ (by omega) (Nat.and_self O) FrY.rf (fun T hT hlt => absurd (show T ≤ O by rw [← hT]; exact Nat.and_le_right) (by omega))
