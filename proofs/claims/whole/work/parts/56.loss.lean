section
/-! losses -/
def stp (o : Option (Nat × Nat)) (u : Bool) (v i : Nat) : Option (Nat × Nat) := if u = true then (match o with
  | none => some (v, i)
  | some (b, j) => if v < b then some (v, i) else some (b, j)) else o
def fol {α : Type} (F : Nat → α → α) : Nat → Nat → α → α
  | _, 0, o => o
  | c, k + 1, o => fol F (c + 1) k (F c o)
theorem fol_s {α : Type} (F : Nat → α → α) (c k : Nat) (o : α) : fol F c (k + 1) o = fol F (c + 1) k (F c o) := rfl
theorem fol_add {α : Type} (F : Nat → α → α) : ∀ (k k' c : Nat) (o : α), fol F c (k + k') o = fol F (c + k) k' (fol F c k o)
  | 0, k', c, o => by rw [Nat.zero_add]; rfl
  | k + 1, k', c, o => by
    rw [show k + 1 + k' = (k + k') + 1 by omega, fol_s, fol_s, fol_add F k k' (c + 1), show c + 1 + k = c + (k + 1) by omega]
theorem fol_congr {α : Type} {F G : Nat → α → α} : ∀ (k c : Nat) (o : α), (∀ i, c ≤ i → i < c + k → ∀ o, F i o = G i o) → fol F c k o = fol G c k o
  | 0, _, _, _ => rfl
  | k + 1, c, o, h => by
    rw [fol_s, fol_s, h c (by omega) (by omega), fol_congr k (c + 1) _ (fun i a b => h i (by omega) (by omega))]
theorem fol_id {α : Type} {F : Nat → α → α} : ∀ (k c : Nat) (o : α), (∀ i, c ≤ i → i < c + k → ∀ o, F i o = o) → fol F c k o = o
  | 0, _, _, _ => rfl
  | k + 1, c, o, h => by
    rw [fol_s, h c (by omega) (by omega), fol_id k (c + 1) o (fun i a b => h i (by omega) (by omega))]
theorem fol_inv {α : Type} {F : Nat → α → α} {P : α → Prop} : ∀ (k c : Nat) (o : α), P o → (∀ i o, P o → P (F i o)) → P (fol F c k o)
  | 0, _, _, h, _ => h
  | k + 1, c, o, h, hF => by rw [fol_s]; exact fol_inv k (c + 1) _ (hF c o h) hF
def hiO : Option (Nat × Nat) → Int
  | none => -9
  | some p => p.2
def loO (z : Nat) : Option (Nat × Nat) → Nat
  | none => z
  | some p => p.1
def oB (o : Option (Nat × Nat)) : Prop := ∀ p, o = some p → p.1 ≤ 24696 ∧ p.2 ≤ 2000
theorem oB_stp {o : Option (Nat × Nat)} {u : Bool} {v i : Nat} (h : oB o) (hv : v ≤ 24696) (hi : i ≤ 2000) : oB (stp o u v i) := by
  unfold stp
  split
  · cases o with
    | none => intro p hp; cases hp; exact ⟨hv, hi⟩
    | some q =>
      dsimp only
      split
      · intro p hp; cases hp; exact ⟨hv, hi⟩
      · exact h
  · exact h
/-- what both have without some -/
def wv (s : AS) (n b : Nat) : Nat := vW s (nM s 0 (aP s 0 0) n) (nD s 0 (aP s 0 0)) (nM s 0 (aP s 0 0) n) (nd (unS s 0) b) + vW s (nM s 1 (aP s 1 0) n) (nD s 1 (aP s 1 0)) (nM s 1 (aP s 1 0) n) (nd (unS s 1) b)
theorem wv_le {s : AS} (ok : aOK s) {n b : Nat} (hn2 : n ≤ 83) : wv s n b ≤ 24696 := by
  have h0 := vW_le ok (m := nM s 0 (aP s 0 0) n) (D := nD s 0 (aP s 0 0)) (r := nM s 0 (aP s 0 0) n) (S := nd (unS s 0) b) (nM_le ok hn2)
  have h1 := vW_le ok (m := nM s 1 (aP s 1 0) n) (D := nD s 1 (aP s 1 0)) (r := nM s 1 (aP s 1 0) n) (S := nd (unS s 1) b) (nM_le ok hn2)
  unfold wv
  omega
/-- both plans of the class -/
def PB (μ : QM) (s : AS) (n : Nat) : Prop := (∃ Q, PP μ 0 s (nM s 0 (aP s 0 0) n) (nD s 0 (aP s 0 0)) (unS s 0) Q) ∧ ∃ Q, PP μ 1 s (nM s 1 (aP s 1 0) n) (nD s 1 (aP s 1 0)) (unS s 1) Q
theorem CI.pb {μ μ' : QM} {σ : GS} {s : AS} {n : Nat} (h : CI μ σ) (f : Fr isPls μ μ') (hP : PB μ' s n) : CI μ' σ ∧ Fr isCl μ μ' := by
  have fx : Fr isX μ μ' := f.mono fun a ha => Or.inl ha
  obtain ⟨⟨Q0, h0⟩, Q1, h1⟩ := hP
  refine ⟨⟨h.1.x fx, fun p hp => ?_⟩, fx.mono isX.cl⟩
  rcases (by omega : p = 0 ∨ p = 1) with rfl | rfl
  · exact ⟨h0.2.1, _, _, h0.1⟩
  · exact ⟨h1.2.1, _, _, h1.1⟩
theorem j_prep2 (d : Nat) {n : Nat} {μ : QM} {σ : GS} (h : CI μ σ) (ok : GOK σ) (hn : aD (gS σ) ≤ n) (hn2 : n ≤ 83) :
    ∃ μ1 μ2, qcall qprogs (d + 5) 129 [qR (0, 0, 0), qR (2, 0, 0), qI (zI 0), qI (zI (n : Nat))] μ = some (some (qR (5, 0, 0)), μ1) ∧ qcall qprogs (d + 5) 129 [qR (0, 0, 0), qR (2, 0, 0), qI (zI 1), qI (zI (n : Nat))] μ1 = some (some (qR (5, 1, 0)), μ2) ∧ Fr isPls μ μ2 ∧ PB μ2 (gS σ) n := by
  obtain ⟨μ1, Q0, r1, r2, r3⟩ := c_J_prepared d (show 0 < 11 by decide) h.1.1 ok.1 (show 0 < 2 by decide) hn hn2 (h.2 0 (by decide)).1
  obtain ⟨μ2, Q1, q1, q2, q3⟩ := c_J_prepared d (show 0 < 11 by decide) (h.1.1.pl r2) ok.1 (show 1 < 2 by decide) hn hn2 ((h.2 1 (by decide)).1.pl r2 (by decide))
  exact ⟨μ1, μ2, r1, q1, (r2.mono isPl.s).tr (q2.mono isPl.s), ⟨Q0, r3.fr q2 fun a z1 z2 => by have := z1.2.2; have := z2.2.2; omega⟩, Q1, q3⟩
theorem c_J_vbw (d : Nat) {b n : Nat} {s : AS} {μ : QM} (h : PB μ s n) : ∃ μ', qcall qprogs (d + 17) 136 [qR (0, 0, 0), qI (zI (b : Nat))] μ = some (some (qI (zI (wv s n b : Nat))), μ') ∧ Fr isPls μ μ' ∧ PB μ' s n := by
  obtain ⟨⟨Q0, h0⟩, Q1, h1⟩ := h
  obtain ⟨μ', r1, r2, r3, r4⟩ := c_J_valueOfBothWithout d (b := b) h0 h1 (fun c hc => unS_n hc) (fun c hc => unS_n hc)
  exact ⟨μ', r1, r2, ⟨Q0, r3⟩, Q1, r4⟩
/-- one lost, or two, of the first n -/
def lG (s : AS) (n : Nat) (one : Bool) (a b : Nat) (o : Option (Nat × Nat)) : Option (Nat × Nat) := stp o (aX s a && aX s b) (wv s n (2 ^ a ||| 2 ^ b)) (bif one then a else 100 * a + b)
def lH (s : AS) (n : Nat) (one : Bool) (a : Nat) (o : Option (Nat × Nat)) : Option (Nat × Nat) := bif one then lG s n one a a o else fol (lG s n one a) (a + 1) (aN s - (a + 1)) o
def unU (s : AS) : Nat := mk (aX s) (aN s)
theorem unU_bit (s : AS) (c : Nat) : (unU s).testBit c = (decide (c < aN s) && aX s c) := mk_bit _ _ _
theorem unU_lt {s : AS} (hn : aN s ≤ 12) : unU s < 4096 := Nat.lt_of_lt_of_le (mk_lt _ _) (show 2 ^ aN s ≤ 2 ^ 12 from Nat.pow_le_pow_right (by decide) hn)
theorem c_J_worstLoss (d : Nat) {n : Nat} {s : AS} {μ : QM} (h : RA μ 0 s) (ok : aOK s) (hP : PB μ s n) (hn2 : n ≤ 83) :
    ∃ μ', qcall qprogs (d + 18) 137 [qR (0, 0, 0)] μ = some (some (qI (zI (hiO (fol (lH s n true) 0 (aN s) none)))), μ') ∧ Fr isPls μ μ' ∧ PB μ' s n := by
  have n12 := ok.2.1
  have U12 := unU_lt n12
  have L : ∀ r c o (μ1 : QM), c + r = 12 → oB o → Fr isPls μ μ1 → PB μ1 s n → ∃ μ', qx (d + 17) qc_J_worstLoss 16 [some (qR (0, 0, 0)), some (qI (zI (unU s : Nat))), some (qI (zI (loO 0 o : Nat))), some (qI (zI (hiO o))), some (qI (zI (c : Nat))), none] [] μ1 = some (some (qI (zI (hiO (fol (lH s n true) c (aN s - c) o)))), μ') ∧ Fr isPls μ μ' ∧ PB μ' s n := by
    intro r
    induction r with
    | zero =>
      intro c o μ1 hc hB f hP
      rw [qb_J_worstLoss_16, zI_of, if_pos (by rw [zI_le (by omega)]; omega), qb_J_worstLoss_69, show aN s - c = 0 by omega]
      exact ⟨μ1, rfl, f, hP⟩
    | succ r ih =>
      intro c o μ1 hc hB f hP
      have skip : ∀ (o' : Option (Nat × Nat)) (μ2 : QM), oB o' → Fr isPls μ μ2 → PB μ2 s n → fol (lH s n true) c (aN s - c) o = fol (lH s n true) (c + 1) (aN s - (c + 1)) o' → ∃ μ', qx (d + 17) qc_J_worstLoss 63 [some (qR (0, 0, 0)), some (qI (zI (unU s : Nat))), some (qI (zI (loO 0 o' : Nat))), some (qI (zI (hiO o'))), some (qI (zI (c : Nat))), none] [] μ2 = some (some (qI (zI (hiO (fol (lH s n true) c (aN s - c) o)))), μ') ∧ Fr isPls μ μ' ∧ PB μ' s n := fun o' μ2 hB2 f2 hP2 e => by
        rw [qb_J_worstLoss_63, zI_of, zI_add, e]
        exact ih (c + 1) o' μ2 (by omega) hB2 f2 hP2
      rw [qb_J_worstLoss_16]
      simp (disch := omega) only [zI_of, zI_0, zI_1, zI_add, zI_sub, zI_mul, zI_neg, zI_lt, zI_le, zI_eq, zI_rem, zI_oob, zI_ixN, zI_ix, zI_ite, zI10, zI01, Int.toNat_natCast, cond_false, cond_true, q01_0, q01_1, q01_0z, q01_1z, qB_if, qB_ifz, qB_ret, qB_retz, qbI_some, qbV_some, qbL_some, qbR_some, qbN_some, qbN_none, true_or, or_true, false_or, or_false, if_true, if_false, Int.reduceEq, Int.reduceLT, Int.reduceLE, Int.reduceNeg, zI_31, zI_bit, zI_and, tb_if]
      rw [if_neg (by omega)]
      cases hb : (unU s).testBit c
      · rw [cond_false]
        refine skip o μ1 hB f hP ?_
        rw [unU_bit] at hb
        by_cases q : c < aN s
        · rw [decide_eq_true q, Bool.true_and] at hb
          rw [show aN s - c = (aN s - (c + 1)) + 1 by omega, fol_s]
          unfold lH lG stp
          rw [hb]
          rfl
        · rw [show aN s - c = 0 by omega, show aN s - (c + 1) = 0 by omega]
          rfl
      · rw [cond_true, qb_J_worstLoss_35]
        simp (disch := omega) only [zI_of, zI_0, zI_1, zI_add, zI_sub, zI_mul, zI_neg, zI_lt, zI_le, zI_eq, zI_rem, zI_oob, zI_ixN, zI_ix, zI_ite, zI10, zI01, Int.toNat_natCast, cond_false, cond_true, q01_0, q01_1, q01_0z, q01_1z, qB_if, qB_ifz, qB_ret, qB_retz, qbI_some, qbV_some, qbL_some, qbR_some, qbN_some, qbN_none, true_or, or_true, false_or, or_false, if_true, if_false, Int.reduceEq, Int.reduceLT, Int.reduceLE, Int.reduceNeg, zI_31, zI_bit]
        rw [unU_bit, Bool.and_eq_true] at hb
        have q : c < aN s := by simpa using hb.1
        obtain ⟨μ2, r1, r2, r3⟩ := c_J_vbw d (b := 2 ^ c) hP
        have wl := wv_le ok (n := n) (b := 2 ^ c) hn2
        have ev : fol (lH s n true) c (aN s - c) o = fol (lH s n true) (c + 1) (aN s - (c + 1)) (stp o true (wv s n (2 ^ c)) c) := by
          rw [show aN s - c = (aN s - (c + 1)) + 1 by omega, fol_s]
          unfold lH lG
          rw [hb.2, Nat.or_self]
          rfl
        have hB2 := oB_stp (u := true) (i := c) hB wl (by omega)
        have i1 := skip _ μ2 hB2 (f.tr r2) r3 ev
        rw [r1, qbI_some]
        cases o with
        | none =>
          rw [if_pos (show zI (hiO none) = zI (-9) from rfl), qb_J_worstLoss_57]
          exact i1
        | some p =>
          obtain ⟨p1, p2⟩ := hB p rfl
          rw [show hiO (some p) = (p.2 : Int) from rfl, show loO 0 (some p) = p.1 from rfl, if_neg (by rw [zI_eq (by omega)]; omega)]
          by_cases e : wv s n (2 ^ c) < p.1
          · rw [if_neg (by rw [zI_le (by omega)]; omega), qb_J_worstLoss_57]
            have e2 : stp (some p) true (wv s n (2 ^ c)) c = some (wv s n (2 ^ c), c) := by unfold stp; rw [if_pos rfl]; exact if_pos e
            rw [e2] at i1
            exact i1
          · rw [if_pos (by rw [zI_le (by omega)]; omega)]
            have e2 : stp (some p) true (wv s n (2 ^ c)) c = some p := by unfold stp; rw [if_pos rfl]; exact if_neg e
            rw [e2] at i1
            exact i1
  obtain ⟨μ', x1, x2, x3⟩ := L 12 0 none μ (by decide) (fun p hp => by cases hp) Fr.rf hP
  refine ⟨μ', ?_, x2, x3⟩
  rw [qe_J_worstLoss, qb_J_worstLoss_0, c_Affair_unused (d + 15) (show 0 < 11 by decide) h ok, qbI_some]
  simp only [zI_of]
  exact x1
theorem or_bit {a b i : Nat} : (2 ^ a ||| 2 ^ b).testBit i = (decide (a = i) || decide (b = i)) := by
  rw [Nat.testBit_or, Nat.testBit_two_pow, Nat.testBit_two_pow]
theorem and_two {U a b : Nat} : (U &&& (2 ^ a ||| 2 ^ b)) = (2 ^ a ||| 2 ^ b) ↔ (U.testBit a = true ∧ U.testBit b = true) := by
  constructor
  · intro h
    have h1 := congrArg (fun z => z.testBit a) h
    have h2 := congrArg (fun z => z.testBit b) h
    rw [Nat.testBit_and, or_bit] at h1 h2
    simp at h1 h2
    exact ⟨h1, h2⟩
  · intro ⟨h1, h2⟩
    apply Nat.eq_of_testBit_eq
    intro i
    rw [Nat.testBit_and, or_bit]
    by_cases e1 : a = i
    · subst e1; simp [h1]
    · by_cases e2 : b = i
      · subst e2; simp [h2]
      · simp [e1, e2]
theorem pow12 {a : Nat} (h : a < 12) : 2 ^ a ≤ 2048 := Nat.pow_le_pow_right (n := 2) (by decide) (show a ≤ 11 by omega)
theorem or12 {a b : Nat} (ha : a < 12) (hb : b < 12) : 2 ^ a ||| 2 ^ b < 4096 := Nat.or_lt_two_pow (n := 12) (Nat.pow_lt_pow_right (by decide) ha) (Nat.pow_lt_pow_right (by decide) hb)
theorem lG_out {s : AS} {n a b : Nat} {one : Bool} {o : Option (Nat × Nat)} (h : (aX s a && aX s b) = false) : lG s n one a b o = o := by
  unfold lG stp
  rw [h]
  rfl
theorem c_J_worstLossOfTwo (d : Nat) {n : Nat} {s : AS} {μ : QM} (h : RA μ 0 s) (ok : aOK s) (hP : PB μ s n) (hn2 : n ≤ 83) :
    ∃ μ', qcall qprogs (d + 18) 138 [qR (0, 0, 0)] μ = some (some (qI (zI (hiO (fol (lH s n false) 0 (aN s) none)))), μ') ∧ Fr isPls μ μ' ∧ PB μ' s n := by
  have n12 := ok.2.1
  have U12 := unU_lt n12
  have L2 : ∀ r a b o (μ1 : QM), b + r = 12 → a < b → oB o → Fr isPls μ μ1 → PB μ1 s n → ∃ μ2 o', qx (d + 17) qc_J_worstLossOfTwo 29 [some (qR (0, 0, 0)), some (qI (zI (unU s : Nat))), some (qI (zI (loO 0 o : Nat))), some (qI (zI (hiO o))), some (qI (zI (a : Nat))), some (qI (zI (b : Nat))), none, none] [] μ1 = qx (d + 17) qc_J_worstLossOfTwo 97 [some (qR (0, 0, 0)), some (qI (zI (unU s : Nat))), some (qI (zI (loO 0 o' : Nat))), some (qI (zI (hiO o'))), some (qI (zI (a : Nat))), none, none, none] [] μ2 ∧ o' = (if a < aN s then fol (lG s n false a) b (aN s - b) o else o) ∧ oB o' ∧ Fr isPls μ μ2 ∧ PB μ2 s n := by
    intro r
    induction r with
    | zero =>
      intro a b o μ1 hb hab hB f hP
      rw [qb_J_worstLossOfTwo_29, zI_of, if_pos (by rw [zI_le (by omega)]; omega), show aN s - b = 0 by omega]
      exact ⟨μ1, o, rfl, by split <;> rfl, hB, f, hP⟩
    | succ r ih =>
      intro a b o μ1 hb hab hB f hP
      have t12 := or12 (show a < 12 by omega) (show b < 12 by omega)
      have skip : ∀ (o' : Option (Nat × Nat)) (μ2 : QM), oB o' → Fr isPls μ μ2 → PB μ2 s n → (if a < aN s then fol (lG s n false a) b (aN s - b) o else o) = (if a < aN s then fol (lG s n false a) (b + 1) (aN s - (b + 1)) o' else o') → ∃ μ3 o'', qx (d + 17) qc_J_worstLossOfTwo 91 [some (qR (0, 0, 0)), some (qI (zI (unU s : Nat))), some (qI (zI (loO 0 o' : Nat))), some (qI (zI (hiO o'))), some (qI (zI (a : Nat))), some (qI (zI (b : Nat))), none, none] [] μ2 = qx (d + 17) qc_J_worstLossOfTwo 97 [some (qR (0, 0, 0)), some (qI (zI (unU s : Nat))), some (qI (zI (loO 0 o'' : Nat))), some (qI (zI (hiO o''))), some (qI (zI (a : Nat))), none, none, none] [] μ3 ∧ o'' = (if a < aN s then fol (lG s n false a) b (aN s - b) o else o) ∧ oB o'' ∧ Fr isPls μ μ3 ∧ PB μ3 s n := fun o' μ2 hB2 f2 hP2 e => by
        rw [qb_J_worstLossOfTwo_91, zI_of, zI_add, e]
        exact ih a (b + 1) o' μ2 (by omega) (by omega) hB2 f2 hP2
      rw [qb_J_worstLossOfTwo_29]
      simp only [zI_of, zI_31]
      rw [if_neg (by rw [zI_le (by omega)]; omega), zI_bit (c := a) (by omega), zI_bit (c := b) (by omega), zI_or, zI_and]
      have al : unU s &&& (2 ^ a ||| 2 ^ b) < 4096 := Nat.lt_of_le_of_lt Nat.and_le_right t12
      by_cases hh : (unU s &&& (2 ^ a ||| 2 ^ b)) = (2 ^ a ||| 2 ^ b)
      · rw [if_pos (by rw [hh]), qb_J_worstLossOfTwo_59]
        rw [and_two, unU_bit, unU_bit, Bool.and_eq_true, Bool.and_eq_true] at hh
        have qa : a < aN s := by simpa using hh.1.1
        have qb : b < aN s := by simpa using hh.2.1
        obtain ⟨μ2, r1, r2, r3⟩ := c_J_vbw d (b := 2 ^ a ||| 2 ^ b) hP
        have wl := wv_le ok (n := n) (b := 2 ^ a ||| 2 ^ b) hn2
        have ev : (if a < aN s then fol (lG s n false a) b (aN s - b) o else o) = (if a < aN s then fol (lG s n false a) (b + 1) (aN s - (b + 1)) (stp o true (wv s n (2 ^ a ||| 2 ^ b)) (100 * a + b)) else (stp o true (wv s n (2 ^ a ||| 2 ^ b)) (100 * a + b))) := by
          rw [if_pos qa, if_pos qa, show aN s - b = (aN s - (b + 1)) + 1 by omega, fol_s]
          unfold lG
          rw [hh.1.2, hh.2.2]
          rfl
        have hB2 := oB_stp (u := true) (i := 100 * a + b) hB wl (by omega)
        have i1 := skip _ μ2 hB2 (f.tr r2) r3 ev
        rw [r1, qbI_some, zI_of]
        cases o with
        | none =>
          rw [if_pos (show zI (hiO none) = zI (-9) from rfl), qb_J_worstLossOfTwo_79, zI_of, zI_mul, zI_add]
          exact i1
        | some p =>
          obtain ⟨p1, p2⟩ := hB p rfl
          rw [show hiO (some p) = (p.2 : Int) from rfl, show loO 0 (some p) = p.1 from rfl, if_neg (by rw [zI_eq (by omega)]; omega)]
          by_cases e : wv s n (2 ^ a ||| 2 ^ b) < p.1
          · rw [if_neg (by rw [zI_le (by omega)]; omega), qb_J_worstLossOfTwo_79, zI_of, zI_mul, zI_add]
            have e2 : stp (some p) true (wv s n (2 ^ a ||| 2 ^ b)) (100 * a + b) = some (wv s n (2 ^ a ||| 2 ^ b), 100 * a + b) := by unfold stp; rw [if_pos rfl]; exact if_pos e
            rw [e2] at i1
            exact i1
          · rw [if_pos (by rw [zI_le (by omega)]; omega)]
            have e2 : stp (some p) true (wv s n (2 ^ a ||| 2 ^ b)) (100 * a + b) = some p := by unfold stp; rw [if_pos rfl]; exact if_neg e
            rw [e2] at i1
            exact i1
      · rw [if_neg (by rw [zI_eq (by omega)]; omega)]
        refine skip o μ1 hB f hP ?_
        by_cases qa : a < aN s
        · rw [if_pos qa, if_pos qa]
          by_cases qb : b < aN s
          · rw [show aN s - b = (aN s - (b + 1)) + 1 by omega, fol_s, lG_out]
            rw [and_two, unU_bit, unU_bit, decide_eq_true qa, decide_eq_true qb] at hh
            cases h1 : aX s a
            · rfl
            · cases h2 : aX s b
              · rfl
              · rw [h1, h2] at hh
                exact absurd ⟨rfl, rfl⟩ hh
          · rw [show aN s - b = 0 by omega, show aN s - (b + 1) = 0 by omega]
            rfl
        · rw [if_neg qa, if_neg qa]
  have L : ∀ r a o (μ1 : QM), a + r = 12 → oB o → Fr isPls μ μ1 → PB μ1 s n → ∃ μ', qx (d + 17) qc_J_worstLossOfTwo 16 [some (qR (0, 0, 0)), some (qI (zI (unU s : Nat))), some (qI (zI (loO 0 o : Nat))), some (qI (zI (hiO o))), some (qI (zI (a : Nat))), none, none, none] [] μ1 = some (some (qI (zI (hiO (fol (lH s n false) a (aN s - a) o)))), μ') ∧ Fr isPls μ μ' ∧ PB μ' s n := by
    intro r
    induction r with
    | zero =>
      intro a o μ1 hc hB f hP
      rw [qb_J_worstLossOfTwo_16, zI_of, if_pos (by rw [zI_le (by omega)]; omega), qb_J_worstLossOfTwo_103, show aN s - a = 0 by omega]
      exact ⟨μ1, rfl, f, hP⟩
    | succ r ih =>
      intro a o μ1 hc hB f hP
      obtain ⟨μ2, o', x1, x2, x3, x4, x5⟩ := L2 (11 - a) a (a + 1) o μ1 (by omega) (by omega) hB f hP
      obtain ⟨μ3, y1, y2, y3⟩ := ih (a + 1) o' μ2 (by omega) x3 x4 x5
      refine ⟨μ3, ?_, y2, y3⟩
      rw [qb_J_worstLossOfTwo_16]
      simp only [zI_of, zI_add]
      rw [if_neg (by rw [zI_le (by omega)]; omega)]
      refine Eq.trans x1 ?_
      rw [qb_J_worstLossOfTwo_97, zI_of, zI_add]
      refine Eq.trans y1 ?_
      by_cases q : a < aN s
      · rw [if_pos q] at x2
        rw [x2, show aN s - a = (aN s - (a + 1)) + 1 by omega, fol_s]
        rfl
      · rw [if_neg q] at x2
        rw [x2, show aN s - a = 0 by omega, show aN s - (a + 1) = 0 by omega]
        rfl
  obtain ⟨μ', x1, x2, x3⟩ := L 12 0 none μ (by decide) (fun p hp => by cases hp) Fr.rf hP
  refine ⟨μ', ?_, x2, x3⟩
  rw [qe_J_worstLossOfTwo, qb_J_worstLossOfTwo_0, c_Affair_unused (d + 15) (show 0 < 11 by decide) h ok, qbI_some]
  simp only [zI_of]
  exact x1
/-- both of the reference -/
def MB (μ : QM) (s : AS) (n : Nat) : Prop := μ.1 (24, 0, 0) 30 = zI (ownS s 0 (nM s 0 (aP s 0 0) n) (nD s 0 (aP s 0 0)) : Nat) ∧ (∀ S, S &&& ownS s 0 (nM s 0 (aP s 0 0) n) (nD s 0 (aP s 0 0)) = S → μ.1 (48, 0, 0) S = zI (vW s (nM s 0 (aP s 0 0) n) (nD s 0 (aP s 0 0)) (nM s 0 (aP s 0 0) n) S : Nat)) ∧ ML μ s (nM s 1 (aP s 1 0) n) (nD s 1 (aP s 1 0)) (ownS s 1 (nM s 1 (aP s 1 0) n) (nD s 1 (aP s 1 0)))
theorem c_M_findBoth (d : Nat) {n : Nat} {s : AS} {μ : QM} (h : RM μ s) (ok : aOK s) (hn : aD s ≤ n) (hn2 : n ≤ 83) :
    ∃ μ', qcall qprogs (d + 6) 243 [qR (24, 0, 0), qI (zI (n : Nat))] μ = some (none, μ') ∧ FrR μ μ' ∧ RM μ' s ∧ MB μ' s n := by
  have n12 := ok.2.1
  obtain ⟨μ1, r1, f1, p1⟩ := c_M_findLaid d (w := 0) h ok (by decide) hn hn2
  obtain ⟨-, p2, p3, p4⟩ := p1
  have O12 := p3
  have L : ∀ r k (μ2 : QM), k + r = 4096 → FrR μ μ2 → RM μ2 s → μ2.1 (43, 0, 0) = μ1.1 (43, 0, 0) → μ2.1 (24, 0, 0) 30 = μ1.1 (24, 0, 0) 29 → (∀ S, S < k → μ2.1 (48, 0, 0) S = μ1.1 (43, 0, 0) S) → ∃ μ3, qx (d + 5) qc_M_findBoth 16 [some (qR (24, 0, 0)), some (qI (zI (n : Nat))), some (qI (zI (k : Nat)))] [] μ2 = qx (d + 5) qc_M_findBoth 41 [some (qR (24, 0, 0)), some (qI (zI (n : Nat))), none] [] μ3 ∧ FrR μ μ3 ∧ RM μ3 s ∧ μ3.1 (24, 0, 0) 30 = μ1.1 (24, 0, 0) 29 ∧ ∀ S, S < 4096 → μ3.1 (48, 0, 0) S = μ1.1 (43, 0, 0) S := by
    intro r
    induction r with
    | zero =>
      intro k μ2 hk f hR e1 e2 e3
      rw [qb_M_findBoth_16, zI_of, if_pos (by rw [zI_le (by omega)]; omega)]
      exact ⟨μ2, rfl, f, hR, e2, by rw [show 4096 = k by omega]; exact e3⟩
    | succ r ih =>
      intro k μ2 hk f hR e1 e2 e3
      rw [qb_M_findBoth_16]
      simp only [zI_of, zI_add]
      rw [if_neg (by rw [zI_le (by omega)]; omega), zI_oob (n := 53248) (by omega), cond_false, zI_oob (n := 4096) (by omega), cond_false, show qix (zI (k : Nat)) = k from zI_ixN (by omega)]
      refine ih (k + 1) _ (by omega) (f.tr ⟨Fr.si (Or.inr (Or.inr (Or.inr (by decide)))), fun j hj => by rw [qsi_ne (by simp)], fun x _ => by rw [qsi_ne (by simp)]⟩) (hR.row (by omega)) (by rw [qsi_ne (by simp)]; exact e1) (by rw [qsi_ne (by simp)]; exact e2) fun S hS => ?_
      rw [qsi_get]
      by_cases q : S = k
      · subst q; rw [if_pos ⟨rfl, rfl⟩, e1]
      · rw [if_neg (fun z => q z.2)]; exact e3 S (by omega)
  obtain ⟨μ3, x1, x2, x3, x4, x5⟩ := L 4096 0 (qsi μ1 (24, 0, 0) 30 (μ1.1 (24, 0, 0) 29)) (by decide) (f1.r.tr ⟨Fr.si (Or.inl rfl), fun j hj => by rw [qsi_get, if_neg (by omega)], fun x _ => by rw [qsi_ne (by simp)]⟩) ((h.q f1).fld (by decide)) (by rw [qsi_ne (by simp)]) (qsi_self _ _ _ _) (fun S hS => absurd hS (by omega))
  obtain ⟨μ4, y1, y2, y3⟩ := c_M_findLaid d (w := 1) x3 ok (by decide) hn hn2
  refine ⟨μ4, ?_, x2.tr y2.r, x3.q y2, ⟨?_, fun S hS => ?_, y3⟩⟩
  · rw [qe_M_findBoth, qb_M_findBoth_0]
    simp only [zI_of]
    rw [show zI (0 : Int) = zI ((0 : Nat) : Int) from rfl, r1, qbV_some, x1, qb_M_findBoth_41, zI_of, show zI (1 : Int) = zI ((1 : Nat) : Int) from rfl, y1, qbV_some]
  · rw [y2.2 30 (by decide) (by decide), x4, p2]
  · have hS2 : S < 4096 := by
      have : S ≤ ownS s 0 (nM s 0 (aP s 0 0) n) (nD s 0 (aP s 0 0)) := by rw [← hS]; exact Nat.and_le_right
      omega
    have := p4 0 (Nat.zero_le _) S hS
    rw [Nat.mul_zero, Nat.zero_add, Nat.sub_zero] at this
    rw [y2.1.1 _ (by unfold isQ; simp), x5 S hS2, this]
theorem c_M_leftBoth (d : Nat) {n b : Nat} {s : AS} {μ : QM} (ok : aOK s) (h : MB μ s n) : qcall qprogs (d + 1) 257 [qR (24, 0, 0), qI (zI (b : Nat))] μ = some (some (qI (zI (wv s n b : Nat))), μ) := by
  have n12 := ok.2.1
  obtain ⟨h1, h2, -, h3, h4, h5⟩ := h
  have O0 := ownS_lt (s := s) (w := 0) (m := nM s 0 (aP s 0 0) n) (D := nD s 0 (aP s 0 0)) n12
  have l0 := nd_le (ownS s 0 (nM s 0 (aP s 0 0) n) (nD s 0 (aP s 0 0))) b
  have l1 := nd_le (ownS s 1 (nM s 1 (aP s 1 0) n) (nD s 1 (aP s 1 0))) b
  have v1 := h5 0 (Nat.zero_le _) _ (sub_of (S := nd (ownS s 1 (nM s 1 (aP s 1 0) n) (nD s 1 (aP s 1 0))) b) (fun c hc => nd_sub hc))
  rw [Nat.mul_zero, Nat.zero_add, Nat.sub_zero] at v1
  rw [qe_M_leftBoth, qb_M_leftBoth_0, h1, h3, zI_of, zI_nd, zI_nd, zI_oob (n := 4096) (by omega), cond_false, zI_oob (n := 53248) (by omega), cond_false, show qix (zI (nd (ownS s 0 (nM s 0 (aP s 0 0) n) (nD s 0 (aP s 0 0))) b : Nat)) = nd (ownS s 0 (nM s 0 (aP s 0 0) n) (nD s 0 (aP s 0 0))) b from zI_ixN (by omega), show qix (zI (nd (ownS s 1 (nM s 1 (aP s 1 0) n) (nD s 1 (aP s 1 0))) b : Nat)) = nd (ownS s 1 (nM s 1 (aP s 1 0) n) (nD s 1 (aP s 1 0))) b from zI_ixN (by omega), h2 _ (sub_of (fun c hc => nd_sub hc)), v1, zI_addN]
  unfold wv
  rw [own_all n12 b _ (Nat.le_refl _), own_all n12 b _ (Nat.le_refl _)]
theorem op_loss {σ : GS} (ok : GOK σ) {z1 z2 : Int} (h1 : iB z1) (h2 : iB z2) : OP 102 258 [qI (zI z1), qI (zI z2)] σ := by
  have b1 := h1.1
  have b2 := h1.2
  have b3 := h2.1
  have b4 := h2.2
  have bD := ok.1.1
  have n12 := ok.1.2.1
  have hr0 := fDay_r (gS σ) z1
  have hr := fWh_r (z := z2) (m := 1) hr0
  have st : ∀ d μ, MI μ σ → qcall qprogs (d + 30) 258 [qR (24, 0, 0), qI (zI z1), qI (zI z2)] μ = qx (d + 29) qc_M_loss 27 [some (qR (24, 0, 0)), some (qI (zI z1)), some (qI (zI z2)), some (qI (zI (fWh (fDay (gS σ) z1) z2 1))), none, none, none, none] [] μ := fun d μ h => by
    rw [qe_M_loss, qb_M_loss_0, h.1.day, zI_of, c_M_bound (d + 28) (by omega), qbI_some, show (if z1 < (aD (gS σ) : Nat) then (-4 : Int) else if 83 < z1 then -6 else 0) = fDay (gS σ) z1 from rfl]
    unfold fWh
    by_cases e : fDay (gS σ) z1 = 0
    · rw [e, if_pos zI0, if_pos rfl, zI_of 0, zI_of, c_M_isIn (d + 28) (by unfold iB at *; omega), qbI_some, qB_if]
      by_cases e2 : 0 ≤ z2 ∧ z2 ≤ 1
      · rw [show (decide ((0 : Int) ≤ z2) && decide (z2 ≤ 1)) = true by simp [e2], cond_true, if_pos e2]
      · rw [show (decide ((0 : Int) ≤ z2) && decide (z2 ≤ 1)) = false by rw [← Bool.decide_and]; exact decide_eq_false e2, cond_false, if_neg e2, zI_of]
    · rw [if_neg (zI_n0 (by omega)), if_neg e]
  by_cases hf : fWh (fDay (gS σ) z1) z2 1 = 0
  · have hf0 := hf
    obtain ⟨hf1, hz0, hz1⟩ := fWh_0 hf
    obtain ⟨n, rfl, hn, hn2⟩ := fDay_0 hf1
    refine ⟨qI (zI (hiO (fol (lH (gS σ) n (decide (z2 = 0))) 0 (aN (gS σ)) none))), σ, fun d μ h => ?_, fun d μ h => ?_, ok⟩
    · obtain ⟨μ1, μ2, r1, r2, r3, r4⟩ := j_prep2 (d + 24) h ok hn hn2
      have ra := h.1.1.pls r3
      have hd : qcall qprogs (d + 30) 102 [qR (0, 0, 0), qI (zI (n : Nat)), qI (zI z2)] μ = if zI z2 = 0 then qbI (qcall qprogs (d + 29) 137 [qR (0, 0, 0)] μ2) (fun x8 μ7 => qx (d + 29) qc_J_loss 54 [none, none, none, none] [qI x8] μ7) else qx (d + 29) qc_J_loss 50 [some (qR (0, 0, 0)), none, none, none] [] μ2 := by
        rw [qe_J_loss, qb_J_loss_0, c_J_faultOfDayWhat (d + 27) h.1.1 ok.1 h1 h2, qbI_some, hf, if_pos zI0, qb_J_loss_17]
        simp only [zI_of]
        rw [r1, qbR_some (qd5 (by decide)), r2, qbR_some (qd5 (by decide))]
      by_cases e : z2 = 0
      · obtain ⟨μ3, x1, x2, x3⟩ := c_J_worstLoss (d + 11) ra ok.1 r4 hn2
        have ci := h.pb (r3.tr x2) x3
        refine ⟨μ3, ?_, ci.1, ci.2⟩
        rw [hd, if_pos (by rw [e]; exact zI0), x1, qbI_some, qb_J_loss_54, decide_eq_true e]
      · obtain ⟨μ3, x1, x2, x3⟩ := c_J_worstLossOfTwo (d + 11) ra ok.1 r4 hn2
        have ci := h.pb (r3.tr x2) x3
        refine ⟨μ3, ?_, ci.1, ci.2⟩
        rw [hd, if_neg (by rw [zI_0, zI_eq (by omega)]; exact e), qb_J_loss_50, x1, qbI_some, qb_J_loss_54, decide_eq_false e]
    · obtain ⟨μ1, r1, r2, r3, r4⟩ := c_M_findBoth (d + 23) h.1 ok.1 hn hn2
      have L2 : ∀ r a b ub o, b + r = ub → ub ≤ aN (gS σ) → a < aN (gS σ) → (z2 = 0 → ub = a + 1) → (z2 ≠ 0 → ub = aN (gS σ)) → oB o → qx (d + 29) qc_M_loss 77 [some (qR (24, 0, 0)), none, some (qI (zI z2)), none, some (qI (zI (hiO o))), some (qI (zI (loO 1000000000 o : Nat))), some (qI (zI (a : Nat))), some (qI (zI (b : Nat)))] [] μ1 = qx (d + 29) qc_M_loss 180 [some (qR (24, 0, 0)), none, some (qI (zI z2)), none, some (qI (zI (hiO (fol (lG (gS σ) n (decide (z2 = 0)) a) b r o)))), some (qI (zI (loO 1000000000 (fol (lG (gS σ) n (decide (z2 = 0)) a) b r o) : Nat))), some (qI (zI (a : Nat))), none] [] μ1 ∧ oB (fol (lG (gS σ) n (decide (z2 = 0)) a) b r o) := by
        intro r
        induction r with
        | zero =>
          intro a b ub o hb hu ha e0 e1 hB
          refine ⟨?_, hB⟩
          rw [qb_M_loss_77]
          by_cases e : z2 = 0
          · have := e0 e
            rw [if_pos (by rw [e]; exact zI0), zI_of, zI_add, qb_M_loss_94, if_pos (by rw [zI_le (by omega)]; omega)]
            rfl
          · have := e1 e
            rw [if_neg (by rw [zI_0, zI_eq (by omega)]; exact e), qb_M_loss_90, r3.cnt, qb_M_loss_94, if_pos (by rw [zI_le (by omega)]; omega)]
            rfl
        | succ r ih =>
          intro a b ub o hb hu ha e0 e1 hB
          have hbn : b < aN (gS σ) := by omega
          have a4 := (ok.1.c ha).2.2.2.2
          have b4' := (ok.1.c hbn).2.2.2.2
          have wl := wv_le ok.1 (n := n) (b := 2 ^ a ||| 2 ^ b) hn2
          have ci : (bif decide (z2 = 0) then a else 100 * a + b) ≤ 2000 := by cases decide (z2 = 0) <;> simp <;> omega
          have hB2 : oB (lG (gS σ) n (decide (z2 = 0)) a b o) := oB_stp hB wl ci
          have i1 := ih a (b + 1) ub (lG (gS σ) n (decide (z2 = 0)) a b o) (by omega) hu ha e0 e1 hB2
          rw [fol_s]
          refine ⟨?_, i1.2⟩
          have i2 := i1.1
          have g94 : qx (d + 29) qc_M_loss 77 [some (qR (24, 0, 0)), none, some (qI (zI z2)), none, some (qI (zI (hiO o))), some (qI (zI (loO 1000000000 o : Nat))), some (qI (zI (a : Nat))), some (qI (zI (b : Nat)))] [] μ1 = qx (d + 29) qc_M_loss 94 [some (qR (24, 0, 0)), none, some (qI (zI z2)), none, some (qI (zI (hiO o))), some (qI (zI (loO 1000000000 o : Nat))), some (qI (zI (a : Nat))), some (qI (zI (b : Nat)))] [qI (zI (ub : Nat)), qI (zI (b : Nat))] μ1 := by
            rw [qb_M_loss_77]
            by_cases e : z2 = 0
            · rw [if_pos (by rw [e]; exact zI0), zI_of, zI_add, e0 e]
              rfl
            · rw [if_neg (by rw [zI_0, zI_eq (by omega)]; exact e), qb_M_loss_90, r3.cnt, e1 e]
          rw [g94, qb_M_loss_94, if_neg (by rw [zI_le (by omega)]; omega), zI_oob (n := 12) (by omega), cond_false, show qix (zI (a : Nat)) = a from zI_ixN (by omega), r3.us ha]
          have out : (aX (gS σ) a && aX (gS σ) b) = false → qx (d + 29) qc_M_loss 174 [some (qR (24, 0, 0)), none, some (qI (zI z2)), none, some (qI (zI (hiO o))), some (qI (zI (loO 1000000000 o : Nat))), some (qI (zI (a : Nat))), some (qI (zI (b : Nat)))] [] μ1 = qx (d + 29) qc_M_loss 180 [some (qR (24, 0, 0)), none, some (qI (zI z2)), none, some (qI (zI (hiO (fol (lG (gS σ) n (decide (z2 = 0)) a) (b + 1) r (lG (gS σ) n (decide (z2 = 0)) a b o))))), some (qI (zI (loO 1000000000 (fol (lG (gS σ) n (decide (z2 = 0)) a) (b + 1) r (lG (gS σ) n (decide (z2 = 0)) a b o)) : Nat))), some (qI (zI (a : Nat))), none] [] μ1 := fun hq => by
            rw [lG_out hq] at i2 ⊢
            rw [qb_M_loss_174, zI_of, zI_add]
            exact i2
          simp only [zI_of]
          by_cases ua : aC (gS σ) a 4 = 0
          · rw [if_neg (by rw [zI_eq (by omega)]; omega), zI_oob (n := 12) (by omega), cond_false, show qix (zI (b : Nat)) = b from zI_ixN (by omega), r3.us hbn]
            by_cases ub' : aC (gS σ) b 4 = 0
            · have hx : (aX (gS σ) a && aX (gS σ) b) = true := by simp [aX, ua, ub']
              have el : lG (gS σ) n (decide (z2 = 0)) a b o = stp o true (wv (gS σ) n (2 ^ a ||| 2 ^ b)) (bif decide (z2 = 0) then a else 100 * a + b) := by unfold lG; rw [hx]
              rw [el] at i2 ⊢
              have lb : qcall qprogs (d + 29) 257 [qR (24, 0, 0), qI (zI ((2 ^ a ||| 2 ^ b : Nat) : Int))] μ1 = _ := c_M_leftBoth (d + 28) (b := 2 ^ a ||| 2 ^ b) ok.1 r4
              rw [if_neg (by rw [zI_eq (by omega)]; omega), zI_31, zI_bit (c := a) (by omega), zI_bit (c := b) (by omega), zI_or, lb, qbI_some]
              have upd : stp o true (wv (gS σ) n (2 ^ a ||| 2 ^ b)) (bif decide (z2 = 0) then a else 100 * a + b) = some (wv (gS σ) n (2 ^ a ||| 2 ^ b), bif decide (z2 = 0) then a else 100 * a + b) → qx (d + 29) qc_M_loss 140 [some (qR (24, 0, 0)), none, some (qI (zI z2)), none, none, none, some (qI (zI (a : Nat))), some (qI (zI (b : Nat)))] [] μ1 = qx (d + 29) qc_M_loss 180 [some (qR (24, 0, 0)), none, some (qI (zI z2)), none, some (qI (zI (hiO (fol (lG (gS σ) n (decide (z2 = 0)) a) (b + 1) r (stp o true (wv (gS σ) n (2 ^ a ||| 2 ^ b)) (bif decide (z2 = 0) then a else 100 * a + b)))))), some (qI (zI (loO 1000000000 (fol (lG (gS σ) n (decide (z2 = 0)) a) (b + 1) r (stp o true (wv (gS σ) n (2 ^ a ||| 2 ^ b)) (bif decide (z2 = 0) then a else 100 * a + b))) : Nat))), some (qI (zI (a : Nat))), none] [] μ1 := fun hu2 => by
                rw [hu2] at i2 ⊢
                have g157 : qx (d + 29) qc_M_loss 140 [some (qR (24, 0, 0)), none, some (qI (zI z2)), none, none, none, some (qI (zI (a : Nat))), some (qI (zI (b : Nat)))] [] μ1 = qx (d + 29) qc_M_loss 157 [some (qR (24, 0, 0)), none, some (qI (zI z2)), none, none, none, some (qI (zI (a : Nat))), some (qI (zI (b : Nat)))] [qI (zI ((bif decide (z2 = 0) then a else 100 * a + b : Nat) : Int))] μ1 := by
                  rw [qb_M_loss_140]
                  by_cases e : z2 = 0
                  · rw [if_pos (by rw [e]; exact zI0), decide_eq_true e, cond_true]
                  · rw [if_neg (by rw [zI_0, zI_eq (by omega)]; exact e), qb_M_loss_149, zI_of, zI_mul, zI_add, decide_eq_false e, cond_false]
                    rfl
                rw [g157, qb_M_loss_157]
                simp only [zI_of]
                rw [zI_31, zI_bit (c := a) (by omega), zI_bit (c := b) (by omega), zI_or, lb, qbI_some, qb_M_loss_174, zI_of, zI_add]
                exact i2
              cases o with
              | none =>
                rw [if_pos (by rw [zI_lt (by show _ ∧ _ ∧ _ ≤ ((1000000000 : Nat) : Int) ∧ ((1000000000 : Nat) : Int) < _; omega)]; show _ < ((1000000000 : Nat) : Int); omega)]
                exact upd rfl
              | some p =>
                obtain ⟨p1, p2⟩ := hB p rfl
                rw [show loO 1000000000 (some p) = p.1 from rfl] at *
                by_cases e : wv (gS σ) n (2 ^ a ||| 2 ^ b) < p.1
                · rw [if_pos (by rw [zI_lt (by omega)]; omega)]
                  exact upd (by unfold stp; rw [if_pos rfl]; exact if_pos e)
                · have e2 : stp (some p) true (wv (gS σ) n (2 ^ a ||| 2 ^ b)) (bif decide (z2 = 0) then a else 100 * a + b) = some p := by unfold stp; rw [if_pos rfl]; exact if_neg e
                  rw [e2] at i2 ⊢
                  rw [if_neg (by rw [zI_lt (by omega)]; omega), qb_M_loss_174, zI_of, zI_add]
                  exact i2
            · rw [if_pos (by rw [zI_eq (by omega)]; omega)]
              exact out (by simp [aX, ub'])
          · rw [if_pos (by rw [zI_eq (by omega)]; omega)]
            exact out (by simp [aX, ua])
      have L : ∀ r a o, a + r = aN (gS σ) → oB o → qx (d + 29) qc_M_loss 53 [some (qR (24, 0, 0)), none, some (qI (zI z2)), none, some (qI (zI (hiO o))), some (qI (zI (loO 1000000000 o : Nat))), some (qI (zI (a : Nat))), none] [] μ1 = some (some (qI (zI (hiO (fol (lH (gS σ) n (decide (z2 = 0))) a r o)))), μ1) := by
        intro r
        induction r with
        | zero =>
          intro a o ha hB
          rw [qb_M_loss_53, r3.cnt, if_pos (by rw [zI_le (by omega)]; omega), qb_M_loss_186]
          rfl
        | succ r ih =>
          intro a o ha hB
          rw [qb_M_loss_53, r3.cnt, if_neg (by rw [zI_le (by omega)]; omega), fol_s]
          by_cases e : z2 = 0
          · obtain ⟨y1, y2⟩ := L2 1 a a (a + 1) o rfl (by omega) (by omega) (fun _ => rfl) (fun z => absurd e z) hB
            have i1 := ih (a + 1) _ (by omega) y2
            have el : lH (gS σ) n (decide (z2 = 0)) a o = fol (lG (gS σ) n (decide (z2 = 0)) a) a 1 o := by
              unfold lH
              rw [decide_eq_true e, cond_true]
              rfl
            rw [if_pos (by rw [e]; exact zI0), qb_M_loss_75, y1, qb_M_loss_180, zI_of, zI_add, el]
            exact i1
          · obtain ⟨y1, y2⟩ := L2 (aN (gS σ) - (a + 1)) a (a + 1) (aN (gS σ)) o (by omega) (by omega) (by omega) (fun z => absurd z e) (fun _ => rfl) hB
            have i1 := ih (a + 1) _ (by omega) y2
            have el : lH (gS σ) n (decide (z2 = 0)) a o = fol (lG (gS σ) n (decide (z2 = 0)) a) (a + 1) (aN (gS σ) - (a + 1)) o := by
              unfold lH
              rw [decide_eq_false e, cond_false]
            rw [if_neg (by rw [zI_0, zI_eq (by omega)]; exact e), qb_M_loss_71, zI_of, zI_add, qb_M_loss_75, show ((a : Nat) : Int) + 1 = ((a + 1 : Nat) : Int) from rfl, y1, qb_M_loss_180, zI_of, zI_add, el]
            exact i1
      have hb := h.rr ok r2 r3
      refine ⟨μ1, ?_, hb.1, hb.2⟩
      rw [st d μ h, hf0, qb_M_loss_27, if_pos zI0, qb_M_loss_37, r1, qbV_some]
      simp only [zI_of]
      exact L (aN (gS σ)) 0 none (by omega) (fun p hp => by cases hp)
  ·
    have hr2 : -6 ≤ fWh (fDay (gS σ) z1) z2 1 ∧ fWh (fDay (gS σ) z1) z2 1 ≤ -1 := by omega
    refine ⟨qI (zI (fWh (fDay (gS σ) z1) z2 1)), refS σ (-(fWh (fDay (gS σ) z1) z2 1)).toNat, fun d μ h => ?_, fun d μ h => ?_, ok.ref⟩
    · rw [qe_J_loss, qb_J_loss_0, c_J_faultOfDayWhat (d + 27) h.1.1 ok.1 h1 h2, qbI_some, if_neg (zI_n0 hr2)]
      obtain ⟨μ9, r1, r2, r3⟩ := c_J_refuse (d + 28) h hr2
      exact ⟨μ9, by simp only [r1, qbI_some], r2, r3⟩
    · rw [st d μ h, qb_M_loss_27, if_neg (zI_n0 hr2)]
      obtain ⟨μ9, r1, r2, r3⟩ := c_M_no (d + 28) h hr2
      exact ⟨μ9, by simp only [r1, qbI_some], r2, r3⟩
end
