/-! weekdays neither would change; quarrels -/
def sbs (f : Nat → Int) (a b : Nat) : Int := f a - (if a = b then 10 else 0)
def allB (P : Nat → Bool) : Nat → Nat → Bool
  | 0, _ => true
  | k + 1, c => P c && allB P k (c + 1)
theorem allB_and (P P' : Nat → Bool) : ∀ k c, allB (fun w => P w && P' w) k c = (allB P k c && allB P' k c)
  | 0, _ => rfl
  | k + 1, c => by
    show ((P c && P' c) && allB (fun w => P w && P' w) k (c + 1)) = ((P c && allB P k (c + 1)) && (P' c && allB P' k (c + 1)))
    rw [allB_and P P' k (c + 1)]
    cases P c <;> cases P' c <;> cases allB P k (c + 1) <;> rfl
def bst (f : Nat → Int) (a b : Nat) : Bool := allB (fun w => decide (sbs f w b ≤ sbs f a b)) 7 0
/-- a row of what is settled -/
def RS (μ : QM) (t : Nat) (f : Nat → Int) : Prop := ∀ i, i < 7 → μ.1 (t, 0, 0) i = zI (f i)
theorem c_J_settledBeside (d : Nat) {t a b : Nat} {f : Nat → Int} {μ : QM} (ht : t = 21 ∨ t = 22) (h : RS μ t f) (ha : a < 7) (hb : b < 7) : qcall qprogs (d + 1) 134 [qR (t, 0, 0), qI (zI (a : Nat)), qI (zI (b : Nat))] μ = some (some (qI (zI (sbs f a b))), μ) := by
  have v := h a ha
  unfold sbs
  rcases ht with rfl | rfl
  · rw [qe_J_settledBeside, qb_J_settledBeside_0]
    simp (disch := omega) only [zI_of, zI_0, zI_1, zI_add, zI_sub, zI_mul, zI_neg, zI_lt, zI_le, zI_eq, zI_rem, zI_oob, zI_ixN, zI_ix, zI_ite, zI10, zI01, Int.toNat_natCast, cond_false, cond_true, q01_0, q01_1, q01_0z, q01_1z, qB_if, qB_ifz, qB_ret, qB_retz, qbI_some, qbV_some, qbL_some, qbR_some, qbN_some, qbN_none, true_or, or_true, false_or, or_false, if_true, if_false, Int.reduceEq, Int.reduceLT, Int.reduceLE, Int.reduceNeg, qb_J_settledBeside_12, v, qb_J_settledBeside_25, qb_J_settledBeside_26]
    rw [if_neg (by omega), if_pos (by omega)]
    by_cases e : a = b
    · rw [if_pos (by omega), if_pos e]
    · rw [if_neg (by omega), if_neg e]
  · rw [qe_J_settledBesideb, qb_J_settledBeside_0b]
    simp (disch := omega) only [zI_of, zI_0, zI_1, zI_add, zI_sub, zI_mul, zI_neg, zI_lt, zI_le, zI_eq, zI_rem, zI_oob, zI_ixN, zI_ix, zI_ite, zI10, zI01, Int.toNat_natCast, cond_false, cond_true, q01_0, q01_1, q01_0z, q01_1z, qB_if, qB_ifz, qB_ret, qB_retz, qbI_some, qbV_some, qbL_some, qbR_some, qbN_some, qbN_none, true_or, or_true, false_or, or_false, if_true, if_false, Int.reduceEq, Int.reduceLT, Int.reduceLE, Int.reduceNeg, qb_J_settledBeside_12b, v, qb_J_settledBeside_25, qb_J_settledBeside_26]
    rw [if_neg (by omega), if_pos (by omega)]
    by_cases e : a = b
    · rw [if_pos (by omega), if_pos e]
    · rw [if_neg (by omega), if_neg e]
theorem c_J_isBestChoice (d : Nat) {t a b : Nat} {f : Nat → Int} {μ : QM} (ht : t = 21 ∨ t = 22) (h : RS μ t f) (hf : ∀ i, -100 ≤ f i ∧ f i ≤ 2000) (ha : a < 7) (hb : b < 7) : qcall qprogs (d + 2) 133 [qR (t, 0, 0), qI (zI (a : Nat)), qI (zI (b : Nat))] μ = some (some (qI (qB (bst f a b))), μ) := by
  have sb : ∀ a b, -200 ≤ sbs f a b ∧ sbs f a b ≤ 2000 := fun a b => by have := hf a; unfold sbs; split <;> omega
  have s0 := sb a b
  rcases ht with rfl | rfl
  · have L : ∀ k c, c + k = 7 → qx (d + 1) qc_J_isBestChoice 10 [some (qR (21, 0, 0)), none, some (qI (zI (b : Nat))), some (qI (zI (sbs f a b))), some (qI (zI (c : Nat)))] [] μ = some (some (qI (qB (allB (fun w => decide (sbs f w b ≤ sbs f a b)) k c))), μ) := by
      intro k
      induction k with
      | zero =>
        intro c hc
        rw [qb_J_isBestChoice_10]
        simp (disch := omega) only [zI_of, zI_0, zI_1, zI_add, zI_sub, zI_mul, zI_neg, zI_lt, zI_le, zI_eq, zI_rem, zI_oob, zI_ixN, zI_ix, zI_ite, zI10, zI01, Int.toNat_natCast, cond_false, cond_true, q01_0, q01_1, q01_0z, q01_1z, qB_if, qB_ifz, qB_ret, qB_retz, qbI_some, qbV_some, qbL_some, qbR_some, qbN_some, qbN_none, true_or, or_true, false_or, or_false, if_true, if_false, Int.reduceEq, Int.reduceLT, Int.reduceLE, Int.reduceNeg, qb_J_isBestChoice_36]
        rw [if_pos (by omega)]
        rfl
      | succ k ih =>
        intro c hc
        have s1 := sb c b
        have i1 := ih (c + 1) (by omega)
        rw [qb_J_isBestChoice_10, if_neg (by rw [zI_of, zI_le (by omega)]; omega), c_J_settledBeside d (Or.inl rfl) h (by omega) hb, qbI_some]
        unfold allB
        by_cases e : sbs f c b ≤ sbs f a b
        · rw [if_pos (by rw [zI_le (by omega)]; exact e), qb_J_isBestChoice_30, decide_eq_true e]
          simp (disch := omega) only [zI_of, zI_0, zI_1, zI_add, zI_sub, zI_mul, zI_neg, zI_lt, zI_le, zI_eq, zI_rem, zI_oob, zI_ixN, zI_ix, zI_ite, zI10, zI01, Int.toNat_natCast, cond_false, cond_true, q01_0, q01_1, q01_0z, q01_1z, qB_if, qB_ifz, qB_ret, qB_retz, qbI_some, qbV_some, qbL_some, qbR_some, qbN_some, qbN_none, true_or, or_true, false_or, or_false, if_true, if_false, Int.reduceEq, Int.reduceLT, Int.reduceLE, Int.reduceNeg]
          exact i1
        · rw [if_neg (by rw [zI_le (by omega)]; exact e), decide_eq_false e]
          simp (disch := omega) only [zI_of, zI_0, zI_1, zI_add, zI_sub, zI_mul, zI_neg, zI_lt, zI_le, zI_eq, zI_rem, zI_oob, zI_ixN, zI_ix, zI_ite, zI10, zI01, Int.toNat_natCast, cond_false, cond_true, q01_0, q01_1, q01_0z, q01_1z, qB_if, qB_ifz, qB_ret, qB_retz, qbI_some, qbV_some, qbL_some, qbR_some, qbN_some, qbN_none, true_or, or_true, false_or, or_false, if_true, if_false, Int.reduceEq, Int.reduceLT, Int.reduceLE, Int.reduceNeg]
          rfl
    rw [qe_J_isBestChoice, qb_J_isBestChoice_0, c_J_settledBeside d (Or.inl rfl) h ha hb, qbI_some, zI_of]
    exact L 7 0 (by omega)
  · have L : ∀ k c, c + k = 7 → qx (d + 1) qc_J_isBestChoice 10 [some (qR (22, 0, 0)), none, some (qI (zI (b : Nat))), some (qI (zI (sbs f a b))), some (qI (zI (c : Nat)))] [] μ = some (some (qI (qB (allB (fun w => decide (sbs f w b ≤ sbs f a b)) k c))), μ) := by
      intro k
      induction k with
      | zero =>
        intro c hc
        rw [qb_J_isBestChoice_10b]
        simp (disch := omega) only [zI_of, zI_0, zI_1, zI_add, zI_sub, zI_mul, zI_neg, zI_lt, zI_le, zI_eq, zI_rem, zI_oob, zI_ixN, zI_ix, zI_ite, zI10, zI01, Int.toNat_natCast, cond_false, cond_true, q01_0, q01_1, q01_0z, q01_1z, qB_if, qB_ifz, qB_ret, qB_retz, qbI_some, qbV_some, qbL_some, qbR_some, qbN_some, qbN_none, true_or, or_true, false_or, or_false, if_true, if_false, Int.reduceEq, Int.reduceLT, Int.reduceLE, Int.reduceNeg, qb_J_isBestChoice_36]
        rw [if_pos (by omega)]
        rfl
      | succ k ih =>
        intro c hc
        have s1 := sb c b
        have i1 := ih (c + 1) (by omega)
        rw [qb_J_isBestChoice_10b, if_neg (by rw [zI_of, zI_le (by omega)]; omega), c_J_settledBeside d (Or.inr rfl) h (by omega) hb, qbI_some]
        unfold allB
        by_cases e : sbs f c b ≤ sbs f a b
        · rw [if_pos (by rw [zI_le (by omega)]; exact e), qb_J_isBestChoice_30b, decide_eq_true e]
          simp (disch := omega) only [zI_of, zI_0, zI_1, zI_add, zI_sub, zI_mul, zI_neg, zI_lt, zI_le, zI_eq, zI_rem, zI_oob, zI_ixN, zI_ix, zI_ite, zI10, zI01, Int.toNat_natCast, cond_false, cond_true, q01_0, q01_1, q01_0z, q01_1z, qB_if, qB_ifz, qB_ret, qB_retz, qbI_some, qbV_some, qbL_some, qbR_some, qbN_some, qbN_none, true_or, or_true, false_or, or_false, if_true, if_false, Int.reduceEq, Int.reduceLT, Int.reduceLE, Int.reduceNeg]
          exact i1
        · rw [if_neg (by rw [zI_le (by omega)]; exact e), decide_eq_false e]
          simp (disch := omega) only [zI_of, zI_0, zI_1, zI_add, zI_sub, zI_mul, zI_neg, zI_lt, zI_le, zI_eq, zI_rem, zI_oob, zI_ixN, zI_ix, zI_ite, zI10, zI01, Int.toNat_natCast, cond_false, cond_true, q01_0, q01_1, q01_0z, q01_1z, qB_if, qB_ifz, qB_ret, qB_retz, qbI_some, qbV_some, qbL_some, qbR_some, qbN_some, qbN_none, true_or, or_true, false_or, or_false, if_true, if_false, Int.reduceEq, Int.reduceLT, Int.reduceLE, Int.reduceNeg]
          rfl
    rw [qe_J_isBestChoiceb, qb_J_isBestChoice_0b, c_J_settledBeside d (Or.inr rfl) h ha hb, qbI_some, zI_of]
    exact L 7 0 (by omega)
/-- none would change: the pair of weekdays k -/
def nth (f g : Nat → Int) (k : Nat) : Bool := bst f (k / 7) (k % 7) && bst g (k % 7) (k / 7)
def nthA : Option Nat → Int
  | none => -9
  | some k => 10 * (k / 7 : Nat) + (k % 7 : Nat)
/-- the reference's row of fourteen -/
def RS2 (μ : QM) (f g : Nat → Int) : Prop := ∀ i, i < 7 → μ.1 (44, 0, 0) i = zI (f i) ∧ μ.1 (44, 0, 0) (7 + i) = zI (g i)
theorem c_M_hasAt0 (d : Nat) {a b : Nat} {f g : Nat → Int} {μ : QM} (h : RS2 μ f g) (ha : a < 7) (hb : b < 7) : qcall qprogs (d + 1) 211 [qR (24, 0, 0), qI (zI 0), qI (zI (a : Nat)), qI (zI (b : Nat))] μ = some (some (qI (zI (sbs f a b))), μ) := by
  have v := (h a ha).1
  rw [qe_M_hasAt, qb_M_hasAt_0, if_pos zI0, qb_M_hasAt_17]
  have e : Int32.ofInt 7 * zI 0 + zI (a : Nat) = zI (a : Nat) := by rw [zI_of, zI_mul, zI_add]; exact zI_congr (by omega)
  rw [e]
  unfold sbs
  simp (disch := omega) only [zI_of, zI_0, zI_1, zI_add, zI_sub, zI_mul, zI_neg, zI_lt, zI_le, zI_eq, zI_rem, zI_oob, zI_ixN, zI_ix, zI_ite, zI10, zI01, Int.toNat_natCast, cond_false, cond_true, q01_0, q01_1, q01_0z, q01_1z, qB_if, qB_ifz, qB_ret, qB_retz, qbI_some, qbV_some, qbL_some, qbR_some, qbN_some, qbN_none, true_or, or_true, false_or, or_false, if_true, if_false, Int.reduceEq, Int.reduceLT, Int.reduceLE, Int.reduceNeg, v, qb_M_hasAt_29, qb_M_hasAt_30]
  by_cases q : a = b
  · rw [if_pos (by omega), if_pos q]
  · rw [if_neg (by omega), if_neg q]
theorem c_M_hasAt1 (d : Nat) {a b : Nat} {f g : Nat → Int} {μ : QM} (h : RS2 μ f g) (ha : a < 7) (hb : b < 7) : qcall qprogs (d + 1) 211 [qR (24, 0, 0), qI (zI 1), qI (zI (a : Nat)), qI (zI (b : Nat))] μ = some (some (qI (zI (sbs g b a))), μ) := by
  have v := (h b hb).2
  rw [qe_M_hasAt, qb_M_hasAt_0, if_neg (by decide), qb_M_hasAt_16, qb_M_hasAt_17]
  have e : Int32.ofInt 7 * zI 1 + zI (b : Nat) = zI ((7 + b : Nat) : Int) := by rw [zI_of, zI_mul, zI_add]; exact zI_congr (by omega)
  rw [e]
  unfold sbs
  simp (disch := omega) only [zI_of, zI_0, zI_1, zI_add, zI_sub, zI_mul, zI_neg, zI_lt, zI_le, zI_eq, zI_rem, zI_oob, zI_ixN, zI_ix, zI_ite, zI10, zI01, Int.toNat_natCast, cond_false, cond_true, q01_0, q01_1, q01_0z, q01_1z, qB_if, qB_ifz, qB_ret, qB_retz, qbI_some, qbV_some, qbL_some, qbR_some, qbN_some, qbN_none, true_or, or_true, false_or, or_false, if_true, if_false, Int.reduceEq, Int.reduceLT, Int.reduceLE, Int.reduceNeg, v, qb_M_hasAt_29, qb_M_hasAt_30]
  by_cases q : a = b
  · rw [if_pos (by omega), if_pos q.symm]
  · rw [if_neg (by omega), if_neg (fun z => q z.symm)]
theorem c_M_rests (d : Nat) {a b : Nat} {f g : Nat → Int} {μ : QM} (h : RS2 μ f g) (hf : ∀ i, -100 ≤ f i ∧ f i ≤ 2000) (hg : ∀ i, -100 ≤ g i ∧ g i ≤ 2000) (ha : a < 7) (hb : b < 7) : qcall qprogs (d + 2) 212 [qR (24, 0, 0), qI (zI (a : Nat)), qI (zI (b : Nat))] μ = some (some (qI (qB (bst f a b && bst g b a))), μ) := by
  have sf : ∀ a b, -200 ≤ sbs f a b ∧ sbs f a b ≤ 2000 := fun a b => by have := hf a; unfold sbs; split <;> omega
  have sg : ∀ a b, -200 ≤ sbs g a b ∧ sbs g a b ≤ 2000 := fun a b => by have := hg a; unfold sbs; split <;> omega
  have f0 := sf a b
  have g0 := sg b a
  have L : ∀ k c, c + k = 7 → qx (d + 1) qc_M_rests 2 [some (qR (24, 0, 0)), some (qI (zI (a : Nat))), some (qI (zI (b : Nat))), some (qI (zI (c : Nat)))] [] μ = some (some (qI (qB (allB (fun w => decide (sbs f w b ≤ sbs f a b) && decide (sbs g w a ≤ sbs g b a)) k c))), μ) := by
    intro k
    induction k with
    | zero =>
      intro c hc
      rw [qb_M_rests_2]
      simp (disch := omega) only [zI_of, zI_0, zI_1, zI_add, zI_sub, zI_mul, zI_neg, zI_lt, zI_le, zI_eq, zI_rem, zI_oob, zI_ixN, zI_ix, zI_ite, zI10, zI01, Int.toNat_natCast, cond_false, cond_true, q01_0, q01_1, q01_0z, q01_1z, qB_if, qB_ifz, qB_ret, qB_retz, qbI_some, qbV_some, qbL_some, qbR_some, qbN_some, qbN_none, true_or, or_true, false_or, or_false, if_true, if_false, Int.reduceEq, Int.reduceLT, Int.reduceLE, Int.reduceNeg, qb_M_rests_50]
      rw [if_pos (by omega)]
      rfl
    | succ k ih =>
      intro c hc
      have f1 := sf c b
      have g1 := sg c a
      have i1 := ih (c + 1) (by omega)
      rw [qb_M_rests_2, if_neg (by rw [zI_of, zI_le (by omega)]; omega), zI_of, zI_of, c_M_hasAt0 d h (by omega) hb, qbI_some, c_M_hasAt0 d h ha hb, qbI_some, c_M_hasAt1 d h ha (by omega), qbI_some, c_M_hasAt1 d h ha hb, qbI_some]
      unfold allB
      by_cases e : sbs f c b ≤ sbs f a b
      · rw [if_neg (by rw [zI_lt (by omega)]; omega), decide_eq_true e]
        by_cases e2 : sbs g c a ≤ sbs g b a
        · rw [if_pos (by rw [zI_le (by omega)]; omega), qb_M_rests_44, decide_eq_true e2]
          simp (disch := omega) only [zI_of, zI_0, zI_1, zI_add, zI_sub, zI_mul, zI_neg, zI_lt, zI_le, zI_eq, zI_rem, zI_oob, zI_ixN, zI_ix, zI_ite, zI10, zI01, Int.toNat_natCast, cond_false, cond_true, q01_0, q01_1, q01_0z, q01_1z, qB_if, qB_ifz, qB_ret, qB_retz, qbI_some, qbV_some, qbL_some, qbR_some, qbN_some, qbN_none, true_or, or_true, false_or, or_false, if_true, if_false, Int.reduceEq, Int.reduceLT, Int.reduceLE, Int.reduceNeg]
          exact i1
        · rw [if_neg (by rw [zI_le (by omega)]; omega), qb_M_rests_42, decide_eq_false e2]
          simp (disch := omega) only [zI_of, zI_0, zI_1, zI_add, zI_sub, zI_mul, zI_neg, zI_lt, zI_le, zI_eq, zI_rem, zI_oob, zI_ixN, zI_ix, zI_ite, zI10, zI01, Int.toNat_natCast, cond_false, cond_true, q01_0, q01_1, q01_0z, q01_1z, qB_if, qB_ifz, qB_ret, qB_retz, qbI_some, qbV_some, qbL_some, qbR_some, qbN_some, qbN_none, true_or, or_true, false_or, or_false, if_true, if_false, Int.reduceEq, Int.reduceLT, Int.reduceLE, Int.reduceNeg]
          rfl
      · rw [if_pos (by rw [zI_lt (by omega)]; omega), qb_M_rests_42, decide_eq_false e]
        simp (disch := omega) only [zI_of, zI_0, zI_1, zI_add, zI_sub, zI_mul, zI_neg, zI_lt, zI_le, zI_eq, zI_rem, zI_oob, zI_ixN, zI_ix, zI_ite, zI10, zI01, Int.toNat_natCast, cond_false, cond_true, q01_0, q01_1, q01_0z, q01_1z, qB_if, qB_ifz, qB_ret, qB_retz, qbI_some, qbV_some, qbL_some, qbR_some, qbN_some, qbN_none, true_or, or_true, false_or, or_false, if_true, if_false, Int.reduceEq, Int.reduceLT, Int.reduceLE, Int.reduceNeg]
        rfl
  rw [qe_M_rests, qb_M_rests_0, zI_of]
  have := L 7 0 (by omega)
  rw [allB_and] at this
  exact this
theorem op_neither {σ : GS} (ok : GOK σ) {z1 : Int} (h1 : iB z1) : OP 83 213 [qI (zI z1)] σ := by
  have b1 := h1.1
  have b2 := h1.2
  have bD := ok.1.1
  have hr := fDay_r (gS σ) z1
  have eM : ∀ d μ, MI μ σ → qcall qprogs (d + 30) 213 [qR (24, 0, 0), qI (zI z1)] μ = if zI (fDay (gS σ) z1) = 0 then qx (d + 29) qc_M_neither 21 [some (qR (24, 0, 0)), some (qI (zI z1)), none, none] [] μ else qbI (qcall qprogs (d + 29) 152 [qR (24, 0, 0), qI (zI (fDay (gS σ) z1))] μ) (fun x4 μ3 => some (some (qI x4), μ3)) := fun d μ h => by
    rw [qe_M_neither, qb_M_neither_0, h.1.day, zI_of, c_M_bound (d + 28) (by omega), qbI_some]
    rfl
  by_cases hf : fDay (gS σ) z1 = 0
  · have hf0 := hf
    obtain ⟨n, rfl, hn, hn2⟩ := fDay_0 hf
    have sb : ∀ w i, -100 ≤ stl (gS σ) w i n ∧ stl (gS σ) w i n ≤ 2000 := fun w i => stl_b ok.1 hn2
    refine ⟨qI (zI (nthA (ffr (nth (fun i => stl (gS σ) 0 i n) (fun i => stl (gS σ) 1 i n)) 49 0))), σ, fun d μ h => ?_, fun d μ h => ?_, ok⟩
    · have L2 : ∀ μ2, CI μ2 σ → RS μ2 21 (fun i => stl (gS σ) 0 i n) → RS μ2 22 (fun i => stl (gS σ) 1 i n) → qx (d + 29) qc_J_neither 58 [some (qR (0, 0, 0)), none, none, some (qI (zI ((0 : Nat) : Int))), none] [] μ2 = some (some (qI (zI (nthA (ffr (nth (fun i => stl (gS σ) 0 i n) (fun i => stl (gS σ) 1 i n)) 49 0)))), μ2) := by
        intro μ2 h2 ra rb
        have inn : ∀ ra', (∀ a, a + ra' = 7 → qx (d + 29) qc_J_neither 58 [some (qR (0, 0, 0)), none, none, some (qI (zI (a : Nat))), none] [] μ2 = some (some (qI (zI (nthA (ffr (nth (fun i => stl (gS σ) 0 i n) (fun i => stl (gS σ) 1 i n)) (7 * ra') (7 * a))))), μ2)) := by
          intro ra'
          induction ra' with
          | zero =>
            intro a ha
            rw [qb_J_neither_58]
            simp (disch := omega) only [zI_of, zI_0, zI_1, zI_add, zI_sub, zI_mul, zI_neg, zI_lt, zI_le, zI_eq, zI_rem, zI_oob, zI_ixN, zI_ix, zI_ite, zI10, zI01, Int.toNat_natCast, cond_false, cond_true, q01_0, q01_1, q01_0z, q01_1z, qB_if, qB_ifz, qB_ret, qB_retz, qbI_some, qbV_some, qbL_some, qbR_some, qbN_some, qbN_none, true_or, or_true, false_or, or_false, if_true, if_false, Int.reduceEq, Int.reduceLT, Int.reduceLE, Int.reduceNeg, qb_J_neither_120]
            rw [if_pos (by omega)]
            rfl
          | succ ra' iha =>
            intro a ha
            have in2 : ∀ rb', ∀ b, b + rb' = 7 → qx (d + 29) qc_J_neither 67 [some (qR (0, 0, 0)), none, none, some (qI (zI (a : Nat))), some (qI (zI (b : Nat)))] [] μ2 = some (some (qI (zI (nthA (ffr (nth (fun i => stl (gS σ) 0 i n) (fun i => stl (gS σ) 1 i n)) (7 * ra' + rb') (7 * a + b))))), μ2) := by
              intro rb'
              induction rb' with
              | zero =>
                intro b hb
                rw [qb_J_neither_67]
                simp (disch := omega) only [zI_of, zI_0, zI_1, zI_add, zI_sub, zI_mul, zI_neg, zI_lt, zI_le, zI_eq, zI_rem, zI_oob, zI_ixN, zI_ix, zI_ite, zI10, zI01, Int.toNat_natCast, cond_false, cond_true, q01_0, q01_1, q01_0z, q01_1z, qB_if, qB_ifz, qB_ret, qB_retz, qbI_some, qbV_some, qbL_some, qbR_some, qbN_some, qbN_none, true_or, or_true, false_or, or_false, if_true, if_false, Int.reduceEq, Int.reduceLT, Int.reduceLE, Int.reduceNeg, qb_J_neither_114]
                rw [if_pos (by omega)]
                have := iha (a + 1) (by omega)
                rw [show 7 * (a + 1) = 7 * a + b by omega] at this
                exact this
              | succ rb' ihb =>
                intro b hb
                have i1 := ihb (b + 1) (by omega)
                have ed : (7 * a + b) / 7 = a := by omega
                have em : (7 * a + b) % 7 = b := by omega
                have skip : nth (fun i => stl (gS σ) 0 i n) (fun i => stl (gS σ) 1 i n) (7 * a + b) = false → qx (d + 29) qc_J_neither 108 [some (qR (0, 0, 0)), none, none, some (qI (zI (a : Nat))), some (qI (zI (b : Nat)))] [] μ2 = some (some (qI (zI (nthA (ffr (nth (fun i => stl (gS σ) 0 i n) (fun i => stl (gS σ) 1 i n)) (7 * ra' + (rb' + 1)) (7 * a + b))))), μ2) := fun hb => by
                  rw [show 7 * ra' + (rb' + 1) = (7 * ra' + rb') + 1 by omega, ffr_s, hb, if_neg (by decide), qb_J_neither_108]
                  simp (disch := omega) only [zI_of, zI_0, zI_1, zI_add, zI_sub, zI_mul, zI_neg, zI_lt, zI_le, zI_eq, zI_rem, zI_oob, zI_ixN, zI_ix, zI_ite, zI10, zI01, Int.toNat_natCast, cond_false, cond_true, q01_0, q01_1, q01_0z, q01_1z, qB_if, qB_ifz, qB_ret, qB_retz, qbI_some, qbV_some, qbL_some, qbR_some, qbN_some, qbN_none, true_or, or_true, false_or, or_false, if_true, if_false, Int.reduceEq, Int.reduceLT, Int.reduceLE, Int.reduceNeg]
                  exact i1
                rw [qb_J_neither_67, if_neg (by rw [zI_of, zI_le (by omega)]; omega), c_J_isBestChoice (d + 27) (Or.inl rfl) ra (fun i => sb 0 i) (by omega) (by omega), qbI_some, c_J_isBestChoice (d + 27) (Or.inr rfl) rb (fun i => sb 1 i) (by omega) (by omega), qbI_some, qB_if, qB_if]
                cases q1 : bst (fun i => stl (gS σ) 0 i n) a b
                · exact skip (by unfold nth; rw [ed, em, q1]; rfl)
                · cases q2 : bst (fun i => stl (gS σ) 1 i n) b a
                  · exact skip (by unfold nth; rw [ed, em, q1, q2]; rfl)
                  · rw [show 7 * ra' + (rb' + 1) = (7 * ra' + rb') + 1 by omega, ffr_s, if_pos (by unfold nth; rw [ed, em, q1, q2]; rfl)]
                    simp only [cond_true, zI_of, zI_mul, zI_add]
                    refine q_ret ?_
                    show _ = 10 * (((7 * a + b) / 7 : Nat) : Int) + (((7 * a + b) % 7 : Nat) : Int)
                    rw [ed, em]
            rw [qb_J_neither_58, if_neg (by rw [zI_of, zI_le (by omega)]; omega), zI_of]
            exact in2 7 0 (by omega)
        exact inn 7 0 (by omega)
      have L1 : ∀ k c μ1, c + k = 7 → CI μ1 σ → (∀ i, i < c → μ1.1 (21, 0, 0) i = zI (stl (gS σ) 0 i n)) → (∀ i, i < c → μ1.1 (22, 0, 0) i = zI (stl (gS σ) 1 i n)) → ∃ μ', qx (d + 29) qc_J_neither 18 [some (qR (0, 0, 0)), some (qI (zI (n : Nat))), none, some (qI (zI (c : Nat))), none] [] μ1 = some (some (qI (zI (nthA (ffr (nth (fun i => stl (gS σ) 0 i n) (fun i => stl (gS σ) 1 i n)) 49 0)))), μ') ∧ CI μ' σ ∧ Fr isCl μ1 μ' := by
        intro k
        induction k with
        | zero =>
          intro c μ1 hc h ha hb
          rw [qb_J_neither_18]
          simp (disch := omega) only [zI_of, zI_0, zI_1, zI_add, zI_sub, zI_mul, zI_neg, zI_lt, zI_le, zI_eq, zI_rem, zI_oob, zI_ixN, zI_ix, zI_ite, zI10, zI01, Int.toNat_natCast, cond_false, cond_true, q01_0, q01_1, q01_0z, q01_1z, qB_if, qB_ifz, qB_ret, qB_retz, qbI_some, qbV_some, qbL_some, qbR_some, qbN_some, qbN_none, true_or, or_true, false_or, or_false, if_true, if_false, Int.reduceEq, Int.reduceLT, Int.reduceLE, Int.reduceNeg]
          rw [if_pos (by omega), qb_J_neither_56, zI_of]
          exact ⟨μ1, L2 μ1 h (fun i hi => ha i (by omega)) (fun i hi => hb i (by omega)), h, Fr.rf⟩
        | succ k ih =>
          intro c μ1 hc h ha hb
          have n1 : ∀ w t, 20 ≤ t → ¬ isPl w (t, 0, 0) := fun w t ht z => by have := z.2.1; dsimp only at this; omega
          have wrx : ∀ (t i : Nat) (μ : QM) (v : Int32), t = 21 ∨ t = 22 → CI μ σ → CI (qsi μ (t, 0, 0) i v) σ ∧ Fr isCl μ (qsi μ (t, 0, 0) i v) := fun t i μ v ht h => by
            have fx : Fr isX μ (qsi μ (t, 0, 0) i v) := Fr.si (Or.inr (Or.inr (Or.inr (by dsimp only; omega))))
            refine ⟨⟨h.1.x fx, fun p hp => ?_⟩, fx.mono isX.cl⟩
            obtain ⟨a, m, D, b⟩ := h.2 p hp
            exact ⟨a.congr fun c => by rw [qsi_ne (by simp; omega)], m, D, b.congr (by rw [qsi_ne (by simp; omega)]) (by rw [qsi_ne (by simp; omega)])⟩
          obtain ⟨μ2, Q, r1, r2, r3⟩ := c_J_settledOn (d + 12) (w := 0) (wd := c) h.1.1 ok.1 (by decide) (by omega) hn hn2 (h.2 0 (by decide)).1
          have ci := h.pp r2 r3
          have w1 := wrx 21 c μ2 (zI (stl (gS σ) 0 c n)) (Or.inl rfl) ci.1
          obtain ⟨μ3, Q', r1', r2', r3'⟩ := c_J_settledOn (d + 12) (w := 1) (wd := c) w1.1.1.1 ok.1 (by decide) (by omega) hn hn2 (w1.1.2 1 (by decide)).1
          have ci' := w1.1.pp r2' r3'
          have w2 := wrx 22 c μ3 (zI (stl (gS σ) 1 c n)) (Or.inr rfl) ci'.1
          obtain ⟨μ4, x1, x2, x3⟩ := ih (c + 1) _ (by omega) w2.1 (fun i hi => by
            rw [qsi_ne (by simp), r2'.1 _ (n1 1 21 (by decide)), qsi_get]
            by_cases e : i = c
            · subst e; rw [if_pos ⟨rfl, rfl⟩]
            · rw [if_neg (by simp [e]), r2.1 _ (n1 0 21 (by decide))]; exact ha i (by omega)) (fun i hi => by
            rw [qsi_get]
            by_cases e : i = c
            · subst e; rw [if_pos ⟨rfl, rfl⟩]
            · rw [if_neg (by simp [e]), r2'.1 _ (n1 1 22 (by decide)), qsi_ne (by simp), r2.1 _ (n1 0 22 (by decide))]; exact hb i (by omega))
          refine ⟨μ4, ?_, x2, ci.2.tr (w1.2.tr (ci'.2.tr (w2.2.tr x3)))⟩
          rw [qb_J_neither_18, if_neg (by rw [zI_of, zI_le (by omega)]; omega), zI_of, zI_of, show zI (0 : Int) = zI ((0 : Nat) : Int) from rfl, show zI (1 : Int) = zI ((1 : Nat) : Int) from rfl, r1, qbI_some, zI_oob (n := 7) (by omega), cond_false, show qix (zI (c : Nat)) = c from zI_ixN (by omega), r1', qbI_some, cond_false]
          rw [show zI (c : Nat) + zI ((1 : Nat) : Int) = zI ((c + 1 : Nat) : Int) from zI_add _ _]
          exact x1
      obtain ⟨μ2, x1, x2, x3⟩ := L1 7 0 μ (by omega) h (fun i hi => absurd hi (by omega)) (fun i hi => absurd hi (by omega))
      rw [qe_J_neither, qb_J_neither_0, c_J_faultOfDay (d + 28) h.1.1 ok.1 h1, qbI_some, hf, if_pos zI0, qb_J_neither_16, zI_of]
      exact ⟨μ2, x1, x2, x3⟩
    · have L2 : ∀ μ2, RS2 μ2 (fun i => stl (gS σ) 0 i n) (fun i => stl (gS σ) 1 i n) → ∀ k c, c + k = 49 → qx (d + 29) qc_M_neither 56 [some (qR (24, 0, 0)), none, none, some (qI (zI (c : Nat)))] [] μ2 = some (some (qI (zI (nthA (ffr (nth (fun i => stl (gS σ) 0 i n) (fun i => stl (gS σ) 1 i n)) k c)))), μ2) := by
        intro μ2 hs k
        induction k with
        | zero =>
          intro c hc
          rw [qb_M_neither_56]
          simp (disch := omega) only [zI_of, zI_0, zI_1, zI_add, zI_sub, zI_mul, zI_neg, zI_lt, zI_le, zI_eq, zI_rem, zI_oob, zI_ixN, zI_ix, zI_ite, zI10, zI01, Int.toNat_natCast, cond_false, cond_true, q01_0, q01_1, q01_0z, q01_1z, qB_if, qB_ifz, qB_ret, qB_retz, qbI_some, qbV_some, qbL_some, qbR_some, qbN_some, qbN_none, true_or, or_true, false_or, or_false, if_true, if_false, Int.reduceEq, Int.reduceLT, Int.reduceLE, Int.reduceNeg, qb_M_neither_96]
          rw [if_pos (by omega)]
          rfl
        | succ k ih =>
          intro c hc
          have i1 := ih (c + 1) (by omega)
          have eq1 : zI (c : Nat) / Int32.ofInt 7 = zI ((c / 7 : Nat) : Int) := by rw [zI_of, zI_tdiv (by omega)]; rfl
          have eq2 : zI (c : Nat) - zI ((c / 7 : Nat) : Int) * Int32.ofInt 7 = zI ((c % 7 : Nat) : Int) := by rw [zI_of, zI_mul, zI_sub]; exact zI_congr (by omega)
          rw [qb_M_neither_56, if_neg (by rw [zI_of, zI_le (by omega)]; omega), if_neg (by decide), if_neg (by decide), eq1, eq2, c_M_rests (d + 27) hs (fun i => sb 0 i) (fun i => sb 1 i) (by omega) (by omega), qbI_some, ffr_s]
          rw [show (bst (fun i => stl (gS σ) 0 i n) (c / 7) (c % 7) && bst (fun i => stl (gS σ) 1 i n) (c % 7) (c / 7)) = nth (fun i => stl (gS σ) 0 i n) (fun i => stl (gS σ) 1 i n) c from rfl]
          cases nth (fun i => stl (gS σ) 0 i n) (fun i => stl (gS σ) 1 i n) c
          · rw [if_pos (by decide), if_neg (by decide), qb_M_neither_90]
            simp (disch := omega) only [zI_of, zI_0, zI_1, zI_add, zI_sub, zI_mul, zI_neg, zI_lt, zI_le, zI_eq, zI_rem, zI_oob, zI_ixN, zI_ix, zI_ite, zI10, zI01, Int.toNat_natCast, cond_false, cond_true, q01_0, q01_1, q01_0z, q01_1z, qB_if, qB_ifz, qB_ret, qB_retz, qbI_some, qbV_some, qbL_some, qbR_some, qbN_some, qbN_none, true_or, or_true, false_or, or_false, if_true, if_false, Int.reduceEq, Int.reduceLT, Int.reduceLE, Int.reduceNeg]
            exact i1
          · rw [if_neg (by decide), if_pos rfl, if_neg (by decide), if_neg (by decide), zI_of, zI_mul, zI_add]
            rfl
      have L1 : ∀ k c μ1, c + k = 14 → MI μ1 σ → (∀ i, i < c → μ1.1 (44, 0, 0) i = zI (stl (gS σ) (i / 7) (i % 7) n)) → ∃ μ', qx (d + 29) qc_M_neither 23 [some (qR (24, 0, 0)), some (qI (zI (n : Nat))), none, some (qI (zI (c : Nat)))] [] μ1 = some (some (qI (zI (nthA (ffr (nth (fun i => stl (gS σ) 0 i n) (fun i => stl (gS σ) 1 i n)) 49 0)))), μ') ∧ MI μ' σ ∧ Fr isMd μ1 μ' := by
        intro k
        induction k with
        | zero =>
          intro c μ1 hc h ha
          rw [qb_M_neither_23]
          simp (disch := omega) only [zI_of, zI_0, zI_1, zI_add, zI_sub, zI_mul, zI_neg, zI_lt, zI_le, zI_eq, zI_rem, zI_oob, zI_ixN, zI_ix, zI_ite, zI10, zI01, Int.toNat_natCast, cond_false, cond_true, q01_0, q01_1, q01_0z, q01_1z, qB_if, qB_ifz, qB_ret, qB_retz, qbI_some, qbV_some, qbL_some, qbR_some, qbN_some, qbN_none, true_or, or_true, false_or, or_false, if_true, if_false, Int.reduceEq, Int.reduceLT, Int.reduceLE, Int.reduceNeg]
          rw [if_pos (by omega), qb_M_neither_54, zI_of]
          exact ⟨μ1, L2 μ1 (fun i hi => ⟨by rw [ha i (by omega), show i / 7 = 0 by omega, show i % 7 = i by omega], by rw [ha (7 + i) (by omega), show (7 + i) / 7 = 1 by omega, show (7 + i) % 7 = i by omega]⟩) 49 0 (by omega), h, Fr.rf⟩
        | succ k ih =>
          intro c μ1 hc h ha
          have eq1 : zI (c : Nat) / Int32.ofInt 7 = zI ((c / 7 : Nat) : Int) := by rw [zI_of, zI_tdiv (by omega)]; rfl
          have eq2 : zI (c : Nat) - zI ((c / 7 : Nat) : Int) * Int32.ofInt 7 = zI ((c % 7 : Nat) : Int) := by rw [zI_of, zI_mul, zI_sub]; exact zI_congr (by omega)
          obtain ⟨μ2, r1, r2, r3, r4⟩ := c_M_settledBy (d + 22) (w := c / 7) (wd := c % 7) h.1 ok.1 (by omega) (by omega) hn hn2
          have ci := h.rr ok r2 r3
          have e44 : μ2.1 (44, 0, 0) = μ1.1 (44, 0, 0) := r4 44 (by decide)
          have fq : FrR μ2 (qsi μ2 (44, 0, 0) c (zI (stl (gS σ) (c / 7) (c % 7) n))) := ⟨Fr.si (Or.inr (Or.inr (Or.inl (by decide)))), fun k hk => by rw [qsi_ne (by simp)], fun x _ => by rw [qsi_ne (by simp)]⟩
          have ci2 := ci.1.rr ok fq (ci.1.1.congr (by rw [qsi_ne (by simp)]) (by rw [qsi_ne (by simp)]) (fun k hk => qsi_ne (by simp; omega)) rfl rfl (fun _ _ _ _ => rfl) (fun _ _ _ _ => rfl))
          obtain ⟨μ3, x1, x2, x3⟩ := ih (c + 1) _ (by omega) ci2.1 (fun i hi => by
            rw [qsi_get]
            by_cases e : i = c
            · subst e; rw [if_pos ⟨rfl, rfl⟩]
            · rw [if_neg (by simp [e]), e44]; exact ha i (by omega))
          refine ⟨μ3, ?_, x2, ci.2.tr (ci2.2.tr x3)⟩
          rw [qb_M_neither_23, if_neg (by rw [zI_of, zI_le (by omega)]; omega), if_neg (by decide), if_neg (by decide), eq1, eq2, r1, qbI_some, zI_oob (n := 14) (by omega), cond_false, show qix (zI (c : Nat)) = c from zI_ixN (by omega), zI_of, show zI (c : Nat) + zI (1 : Int) = zI ((c + 1 : Nat) : Int) from zI_add _ _]
          exact x1
      obtain ⟨μ2, x1, x2, x3⟩ := L1 14 0 μ (by omega) h (fun i hi => absurd hi (by omega))
      rw [eM d μ h, hf, if_pos zI0, qb_M_neither_21, zI_of]
      exact ⟨μ2, x1, x2, x3⟩
  ·
    have hr2 : -6 ≤ fDay (gS σ) z1 ∧ fDay (gS σ) z1 ≤ -1 := by omega
    refine ⟨qI (zI (fDay (gS σ) z1)), refS σ (-(fDay (gS σ) z1)).toNat, fun d μ h => ?_, fun d μ h => ?_, ok.ref⟩
    · rw [qe_J_neither, qb_J_neither_0, c_J_faultOfDay (d + 28) h.1.1 ok.1 h1, qbI_some, if_neg (zI_n0 hr2)]
      obtain ⟨μ9, r1, r2, r3⟩ := c_J_refuse (d + 28) h hr2
      exact ⟨μ9, by simp only [r1, qbI_some], r2, r3⟩
    · rw [eM d μ h, if_neg (zI_n0 hr2)]
      obtain ⟨μ9, r1, r2, r3⟩ := c_M_no (d + 28) h hr2
      exact ⟨μ9, by simp only [r1, qbI_some], r2, r3⟩
