/-! laid, wasted, worth, streak -/
theorem j_ref1 {d : Nat} {f : Int} {μ : QM} {σ : GS} (h : CI μ σ) (hf : -6 ≤ f ∧ f ≤ -1) : ∃ μ', qbI (qcall qprogs (d + 1) 104 [qR (0, 0, 0), qI (zI f)] μ) (fun x2 μ1 => some (some (qI x2), μ1)) = some (some (qI (zI f)), μ') ∧ CI μ' (refS σ (-f).toNat) ∧ Fr isCl μ μ' := by
  obtain ⟨μ', r1, r2, r3⟩ := c_J_refuse d h hf
  exact ⟨μ', by rw [r1]; rfl, r2, r3⟩
theorem m_ref1 {d : Nat} {f : Int} {μ : QM} {σ : GS} (h : MI μ σ) (hf : -6 ≤ f ∧ f ≤ -1) : ∃ μ', qbI (qcall qprogs (d + 1) 152 [qR (24, 0, 0), qI (zI f)] μ) (fun x2 μ1 => some (some (qI x2), μ1)) = some (some (qI (zI f)), μ') ∧ MI μ' (refS σ (-f).toNat) ∧ Fr isMd μ μ' := by
  obtain ⟨μ', r1, r2, r3⟩ := c_M_no d h hf
  exact ⟨μ', by rw [r1]; rfl, r2, r3⟩
theorem isW_congr {s : AS} {m i l l' V c : Nat} {D : Nat → Nat} (h1 : l < 4096) (h2 : l' < 4096) (hi : i < m) (h : ∀ c j, i ≤ j → j < m → (l.testBit c && gB s m D c j) = (l'.testBit c && gB s m D c j)) : isW s m D i l V c = isW s m D i l' V c := by
  unfold isW
  have e := h c i (Nat.le_refl _) hi
  have ev : vW s m D (m - (i + 1)) (nd l (2 ^ c)) = vW s m D (m - (i + 1)) (nd l' (2 ^ c)) := kV_congr _ _ _ (Nat.lt_of_le_of_lt (nd_le _ _) h1) (Nat.lt_of_le_of_lt (nd_le _ _) h2) (fun x j _ a b => by
    rw [nd2 h1, nd2 h2, Bool.and_right_comm, h x j (by omega) b, Bool.and_right_comm]) (by omega)
  rw [ev, ← Bool.and_assoc, e, Bool.and_assoc]
theorem wayS_congr {s : AS} {m : Nat} {D : Nat → Nat} : ∀ (r l l' j : Nat), l < 4096 → l' < 4096 → r ≤ m → (∀ c i, m - r ≤ i → i < m → (l.testBit c && gB s m D c i) = (l'.testBit c && gB s m D c i)) → wayS s m D r l j = wayS s m D r l' j
  | 0, _, _, _, _, _, _, _ => rfl
  | r + 1, l, l', j, h1, h2, hr, h => by
    have ev : vW s m D (r + 1) l = vW s m D (r + 1) l' := kV_congr _ _ _ h1 h2 (fun x i _ a b => h x i a b) hr
    have ep : isW s m D (m - (r + 1)) l (vW s m D (r + 1) l) = isW s m D (m - (r + 1)) l' (vW s m D (r + 1) l') := by
      rw [ev]
      exact funext fun c => isW_congr h1 h2 (by omega) h
    unfold wayS
    rw [ep]
    cases hf : ffr (isW s m D (m - (r + 1)) l' (vW s m D (r + 1) l')) 12 0 with
    | none => rw [show lft l none = l from rfl, show lft l' none = l' from rfl, wayS_congr r l l' (j - 1) h1 h2 (by omega) (fun c i a b => h c i (by omega) b)]
    | some c => rw [show lft l (some c) = nd l (2 ^ c) from rfl, show lft l' (some c) = nd l' (2 ^ c) from rfl, wayS_congr r (nd l (2 ^ c)) (nd l' (2 ^ c)) (j - 1) (Nat.lt_of_le_of_lt (nd_le _ _) h1) (Nat.lt_of_le_of_lt (nd_le _ _) h2) (by omega) (fun x i a b => by
        rw [nd2 h1, nd2 h2, Bool.and_right_comm, h x i (by omega) b, Bool.and_right_comm])]
theorem wayS_ge {s : AS} {m : Nat} {D : Nat → Nat} : ∀ (r l j : Nat), r ≤ j → wayS s m D r l j = none
  | 0, _, _, _ => rfl
  | r + 1, l, j, h => by
    unfold wayS
    rw [if_neg (by omega)]
    exact wayS_ge r _ _ (by omega)
/-- own causes and all of one's: the same on the days -/
theorem own_ag {s : AS} {w m c i : Nat} {D : Nat → Nat} (hi : i < m) : ((unS s w).testBit c && gB s m D c i) = ((ownS s w m D).testBit c && gB s m D c i) := by
  cases hg : gB s m D c i
  · simp
  · unfold unS ownS
    rw [mk_bit, mk_bit]
    have hf : aF s c (D i) = true := by unfold gB gdB at hg; rw [mk_bit, Bool.and_eq_true] at hg; exact hg.2
    rw [anyB_of m hi hf]
    cases aX s c <;> cases decide (aC s c 2 = w) <;> simp
theorem own_way {s : AS} {w m j : Nat} {D : Nat → Nat} (hn : aN s ≤ 12) : wayS s m D m (unS s w) j = wayS s m D m (ownS s w m D) j := wayS_congr m _ _ j (unS_lt hn) (ownS_lt hn) (Nat.le_refl m) fun c i _ hi => own_ag hi
theorem m_way (d : Nat) {w m n j : Nat} {D : Nat → Nat} {s : AS} {μ : QM} (hR : RM μ s) (ok : aOK s) (hw : w < 2) (hM : ML μ s m D (ownS s w m D)) (hwd : ∀ i, i < m → D i % 7 = aP s w 0) (hj : j < 2147483648) :
    qx (d + 4) qc_M_laid 75 [some (qR (24, 0, 0)), some (qI (zI (w : Nat))), none, some (qI (zI (j : Nat))), none, none, none, none, none] [] μ = some (some (qI (zI (onM (wayS s m D m (ownS s w m D) j)))), μ) := by
  have n12 := ok.2.1
  obtain ⟨hP, h29, O4, hB⟩ := hM
  have m12 := hP.1
  have fin : ∀ (o : Option Nat) (i : Nat), o = (if m ≤ j then o else wayS s m D m (ownS s w m D) j) → (j < i ∨ m ≤ i) → i ≤ 13 → ∀ a, qx (d + 4) qc_M_laid 88 [some (qR (24, 0, 0)), some (qI (zI (w : Nat))), none, some (qI (zI (j : Nat))), none, some (qI a), some (qI (zI (onM o))), some (qI (zI (i : Nat))), none] [] μ = some (some (qI (zI (onM (wayS s m D m (ownS s w m D) j)))), μ) := fun o i ho hi hi2 a => by
    have e : qx (d + 4) qc_M_laid 234 [some (qR (24, 0, 0)), none, none, some (qI (zI (j : Nat))), none, none, some (qI (zI (onM o))), none, none] [] μ = some (some (qI (zI (onM (wayS s m D m (ownS s w m D) j)))), μ) := by
      rw [qb_M_laid_234, hP.2.1]
      by_cases q : m ≤ j
      · rw [if_pos (by rw [zI_le (by omega)]; omega), qb_M_laid_247, qb_M_laid_249, wayS_ge m _ j q]
        rfl
      · rw [if_neg (by rw [zI_le (by omega)]; omega), qb_M_laid_249]
        rw [if_neg q] at ho
        rw [ho]
    rw [qb_M_laid_88, hP.2.1]
    rcases hi with hi | hi
    · rw [if_pos (by rw [zI_lt (by omega)]; omega), e]
    · by_cases q : j < i
      · rw [if_pos (by rw [zI_lt (by omega)]; omega), e]
      · rw [if_neg (by rw [zI_lt (by omega)]; omega), if_pos (by rw [zI_le (by omega)]; omega), e]
  have inner : ∀ (r i left : Nat), r ≤ aN s → i < m → left < 4096 → left &&& ownS s w m D = left → qx (d + 4) qc_M_laid 115 [some (qR (24, 0, 0)), some (qI (zI (w : Nat))), none, some (qI (zI (j : Nat))), none, some (qI (zI (left : Nat))), some (qI (zI (onM (ffr (isW s m D i left (vW s m D (m - i) left)) (aN s - r) r)))), some (qI (zI (i : Nat))), some (qI (zI ((r : Int) - 1)))] [] μ =
      qx (d + 4) qc_M_laid 208 [some (qR (24, 0, 0)), some (qI (zI (w : Nat))), none, some (qI (zI (j : Nat))), none, some (qI (zI (left : Nat))), some (qI (zI (onM (ffr (isW s m D i left (vW s m D (m - i) left)) (aN s) 0)))), some (qI (zI (i : Nat))), none] [] μ := by
    intro r
    induction r with
    | zero =>
      intro i left hr hi hl hs
      rw [qb_M_laid_115]
      simp (disch := omega) only [zI_of, zI_0, zI_1, zI_add, zI_sub, zI_mul, zI_neg, zI_lt, zI_le, zI_eq, zI_rem, zI_oob, zI_ixN, zI_ix, zI_ite, zI10, zI01, Int.toNat_natCast, cond_false, cond_true, q01_0, q01_1, q01_0z, q01_1z, qB_if, qB_ifz, qB_ret, qB_retz, qbI_some, qbV_some, qbL_some, qbR_some, qbN_some, qbN_none, true_or, or_true, false_or, or_false, if_true, if_false, Int.reduceEq, Int.reduceLT, Int.reduceLE, Int.reduceNeg]
      rw [if_pos (by omega)]
      rfl
    | succ r ih =>
      intro i left hr hi hl hs
      have i1 := ih i left (by omega) hi hl hs
      have hrn : r < aN s := by omega
      obtain ⟨q1, q2⟩ := hP.2.2 i hi
      have b4 := (ok.c hrn).2.2.2.2
      have b2 := (ok.c hrn).2.2.1
      have e2 : aN s - r = (aN s - (r + 1)) + 1 := by omega
      rw [e2] at i1
      rw [ffr_s] at i1
      have skip : isW s m D i left (vW s m D (m - i) left) r = false → qx (d + 4) qc_M_laid 202 [some (qR (24, 0, 0)), some (qI (zI (w : Nat))), none, some (qI (zI (j : Nat))), none, some (qI (zI (left : Nat))), some (qI (zI (onM (ffr (isW s m D i left (vW s m D (m - i) left)) (aN s - (r + 1)) (r + 1))))), some (qI (zI (i : Nat))), some (qI (zI (r : Nat)))] [] μ =
          qx (d + 4) qc_M_laid 208 [some (qR (24, 0, 0)), some (qI (zI (w : Nat))), none, some (qI (zI (j : Nat))), none, some (qI (zI (left : Nat))), some (qI (zI (onM (ffr (isW s m D i left (vW s m D (m - i) left)) (aN s) 0)))), some (qI (zI (i : Nat))), none] [] μ := fun hb => by
        rw [hb, if_neg (by decide)] at i1
        rw [qb_M_laid_202]
        simp (disch := omega) only [zI_of, zI_0, zI_1, zI_add, zI_sub, zI_mul, zI_neg, zI_lt, zI_le, zI_eq, zI_rem, zI_oob, zI_ixN, zI_ix, zI_ite, zI10, zI01, Int.toNat_natCast, cond_false, cond_true, q01_0, q01_1, q01_0z, q01_1z, qB_if, qB_ifz, qB_ret, qB_retz, qbI_some, qbV_some, qbL_some, qbR_some, qbN_some, qbN_none, true_or, or_true, false_or, or_false, if_true, if_false, Int.reduceEq, Int.reduceLT, Int.reduceLE, Int.reduceNeg]
        exact i1
      have e1 : (((r + 1 : Nat) : Int) - 1) = (r : Nat) := by omega
      rw [qb_M_laid_115, e1, if_neg (by rw [zI_0, zI_lt (by omega)]; omega), zI_oob (n := 12) (by omega), cond_false, show qix (zI (r : Nat)) = r from zI_ixN (by omega), show qix (zI (i : Nat)) = i from zI_ixN (by omega), hR.wh hrn, hR.us hrn, cond_false, c_M_has (d + 3) (by omega) (by omega), qbI_some, zI_oob (n := 12) (by omega), cond_false, q2, c_M_isGood (d + 1) hR ok hrn q1, qbI_some, zI_of]
      have nope : left.testBit r = false → isW s m D i left (vW s m D (m - i) left) r = false := fun hb => by unfold isW; rw [hb]; rfl
      cases hb : left.testBit r
      · have sk := skip (nope hb)
        rw [if_pos (show qB false = 0 by decide)]
        split
        · split
          · exact sk
          · exact sk
        · exact sk
      · obtain ⟨-, o2, o3⟩ := ownS_b (sub_bit hs hb)
        have o4 : aC s r 4 = 0 := by unfold aX at o3; simpa using o3
        rw [if_pos (by rw [o2]), if_neg (by rw [zI_eq (by omega)]; omega), if_neg (show ¬ qB true = 0 by decide), aG_wd o2 (hwd i hi)]
        have eg : gB s m D r i = aF s r (D i) := by unfold gB gdB; rw [mk_bit, decide_eq_true hi, Bool.true_and]
        cases hf : aF s r (D i)
        · rw [if_pos (show qB false = 0 by decide)]
          exact skip (by unfold isW; rw [eg, hf, Bool.false_and, Bool.and_false])
        · rw [if_neg (show ¬ qB true = 0 by decide), qb_M_laid_171]
          have hx := hB (i + 1) (by omega) (nd left (2 ^ r)) (sub_of fun x hx => sub_bit hs (nd_sub hx))
          have hx0 := hB i (by omega) left hs
          have e4 : (Int32.ofInt 4096 * zI (i : Nat)) + zI (left : Nat) = zI ((4096 * i + left : Nat) : Int) := by
            simp (disch := omega) only [zI_of, zI_add, zI_mul]
            refine zI_congr ?_
            omega
          rw [c_M_valueWith (d + 2) hR ok hrn (by omega) hl hx, qbI_some, e4, zI_oob (n := 53248) (by omega), cond_false, show qix (zI ((4096 * i + left : Nat) : Int)) = 4096 * i + left from zI_ixN (by omega), hx0]
          have v1 := vW_le ok (m := m) (D := D) (r := m - (i + 1)) (S := nd left (2 ^ r)) (by omega)
          have v2 := vW_le ok (m := m) (D := D) (r := m - i) (S := left) (by omega)
          have v3 := ok.w hrn
          by_cases e : vW s m D (m - (i + 1)) (nd left (2 ^ r)) + fW s r = vW s m D (m - i) left
          · have hw2 : isW s m D i left (vW s m D (m - i) left) r = true := by unfold isW; rw [hb, eg, hf, decide_eq_true e]; rfl
            rw [if_pos (by rw [e]), qb_M_laid_202]
            rw [hw2, if_pos rfl] at i1
            simp (disch := omega) only [zI_of, zI_0, zI_1, zI_add, zI_sub, zI_mul, zI_neg, zI_lt, zI_le, zI_eq, zI_rem, zI_oob, zI_ixN, zI_ix, zI_ite, zI10, zI01, Int.toNat_natCast, cond_false, cond_true, q01_0, q01_1, q01_0z, q01_1z, qB_if, qB_ifz, qB_ret, qB_retz, qbI_some, qbV_some, qbL_some, qbR_some, qbN_some, qbN_none, true_or, or_true, false_or, or_false, if_true, if_false, Int.reduceEq, Int.reduceLT, Int.reduceLE, Int.reduceNeg]
            exact i1
          · rw [if_neg (by unfold fW at *; rw [zI_eq (by omega)]; omega)]
            exact skip (by unfold isW; rw [decide_eq_false e]; simp)
  have L : ∀ r i left o, i + r = m → i ≤ j → left < 4096 → left &&& ownS s w m D = left → wayS s m D r left (j - i) = wayS s m D m (ownS s w m D) j →
      qx (d + 4) qc_M_laid 88 [some (qR (24, 0, 0)), some (qI (zI (w : Nat))), none, some (qI (zI (j : Nat))), none, some (qI (zI (left : Nat))), some (qI (zI (onM o))), some (qI (zI (i : Nat))), none] [] μ = some (some (qI (zI (onM (wayS s m D m (ownS s w m D) j)))), μ) := by
    intro r
    induction r with
    | zero =>
      intro i left o hi hij hl hs hv
      exact fin o i (by rw [if_pos (by omega)]) (by omega) (by omega) _
    | succ r ih =>
      intro i left o hi hij hl hs hv
      have hin := inner (aN s) i left (Nat.le_refl _) (by omega) hl hs
      rw [Nat.sub_self] at hin
      have ecut : ffr (isW s m D i left (vW s m D (m - i) left)) (aN s) 0 = ffr (isW s m D i left (vW s m D (m - i) left)) 12 0 := ffr_cut (N := aN s) (fun c hc => by
        unfold isW
        cases hb : left.testBit c
        · rfl
        · exact absurd (ownS_b (sub_bit hs hb)).1 (by omega)) _ _ _ (by omega) (by omega)
      rw [ecut] at hin
      have ei : m - (r + 1) = i := by omega
      have er : m - i = r + 1 := by omega
      rw [wayS_s, ei] at hv
      rw [er] at hin
      rw [qb_M_laid_88, hP.2.1, hR.cnt, if_neg (by rw [zI_lt (by omega)]; omega), if_neg (by rw [zI_le (by omega)]; omega), zI_of, zI_of, zI_sub, show zI (-9) = zI (onM (ffr (isW s m D i left (vW s m D (r + 1) left)) 0 (aN s))) from rfl, hin, qb_M_laid_208, onM_ge _ _ (fun b hb => by have := (ffr_some 12 0 hb).2.1; omega)]
      cases hq : ffr (isW s m D i left (vW s m D (r + 1) left)) 12 0 with
      | none =>
        rw [hq] at hv
        rw [if_pos rfl, qb_M_laid_225, show zI (left : Nat) &&& Int32.ofInt (-1) = zI (left : Nat) by rw [zI_of, Int32.and_comm]; exact zI_m1and hl]
        simp (disch := omega) only [zI_of, zI_0, zI_1, zI_add, zI_sub, zI_mul, zI_neg, zI_lt, zI_le, zI_eq, zI_rem, zI_oob, zI_ixN, zI_ix, zI_ite, zI10, zI01, Int.toNat_natCast, cond_false, cond_true, q01_0, q01_1, q01_0z, q01_1z, qB_if, qB_ifz, qB_ret, qB_retz, qbI_some, qbV_some, qbL_some, qbR_some, qbN_some, qbN_none, true_or, or_true, false_or, or_false, if_true, if_false, Int.reduceEq, Int.reduceLT, Int.reduceLE, Int.reduceNeg]
        by_cases e : j = i
        · rw [if_pos (by omega)] at hv
          exact fin none (i + 1) (by rw [if_neg (by omega)]; exact hv) (by omega) (by omega) _
        · rw [if_neg (by omega)] at hv
          exact ih (i + 1) left none (by omega) (by omega) hl hs (by rw [show j - (i + 1) = j - i - 1 by omega]; exact hv)
      | some c =>
        have c12 := (ffr_some 12 0 hq).2.1
        rw [hq] at hv
        rw [if_neg (by simp), qb_M_laid_219, qb_M_laid_225, show onM (some c) = (c : Nat) from rfl]
        simp (disch := omega) only [zI_of, zI_0, zI_1, zI_add, zI_sub, zI_mul, zI_neg, zI_lt, zI_le, zI_eq, zI_rem, zI_oob, zI_ixN, zI_ix, zI_ite, zI10, zI01, Int.toNat_natCast, cond_false, cond_true, q01_0, q01_1, q01_0z, q01_1z, qB_if, qB_ifz, qB_ret, qB_retz, qbI_some, qbV_some, qbL_some, qbR_some, qbN_some, qbN_none, true_or, or_true, false_or, or_false, if_true, if_false, Int.reduceEq, Int.reduceLT, Int.reduceLE, Int.reduceNeg, zI_31, zI_bit, zI_nd]
        rw [show ((c : Nat) : Int) = onM (some c) from rfl]
        by_cases e : j = i
        · rw [if_pos (by omega)] at hv
          exact fin (some c) (i + 1) (by rw [if_neg (by omega)]; exact hv) (by omega) (by omega) _
        · rw [if_neg (by omega)] at hv
          exact ih (i + 1) (nd left (2 ^ c)) (some c) (by omega) (by omega) (Nat.lt_of_le_of_lt (nd_le _ _) hl) (sub_of fun x hx => sub_bit hs (nd_sub hx)) (by rw [show j - (i + 1) = j - i - 1 by omega]; exact hv)
  rw [qb_M_laid_75, h29, zI_of, zI_of]
  exact L m 0 (ownS s w m D) none (by omega) (Nat.zero_le _) O4 (Nat.and_self _) rfl
theorem op_laid {σ : GS} (ok : GOK σ) {z1 z2 z3 : Int} (h1 : iB z1) (h2 : iB z2) (h3 : iB z3) : OP 77 203 [qI (zI z1), qI (zI z2), qI (zI z3)] σ := by
  have b1 := h2.1
  have b2 := h2.2
  have b3 := h3.1
  have b4 := h3.2
  have bD := ok.1.1
  by_cases a : z1 = 0 ∨ z1 = 1
  · have ea : decide (z1 = 0 ∨ z1 = 1) = true := decide_eq_true a
    by_cases b : z2 < aD (gS σ) ∨ z3 < -1
    · refine ⟨qI (zI (-4)), refS σ 4, fun d μ h => ?_, fun d μ h => ?_, ok.ref⟩
      · rw [qe_J_laid, qb_J_laid_0, c_J_isNobody (d + 28) h1, qbI_some, ea, if_pos (by decide), qb_J_laid_13, h.1.1.day]
        rw [show (if zI z2 < zI (aD (gS σ) : Nat) then qx (d + 29) qc_J_laid 29 [some (qR (0, 0, 0)), none, none, none, none] [] μ else if Int32.ofInt (-1) ≤ zI z3 then qx (d + 29) qc_J_laid 36 [some (qR (0, 0, 0)), some (qI (zI z1)), some (qI (zI z2)), some (qI (zI z3)), none] [] μ else qx (d + 29) qc_J_laid 29 [some (qR (0, 0, 0)), none, none, none, none] [] μ) = qx (d + 29) qc_J_laid 29 [some (qR (0, 0, 0)), none, none, none, none] [] μ by
          by_cases q : z2 < aD (gS σ)
          · rw [if_pos (by rw [zI_lt (by omega)]; exact q)]
          · rw [if_neg (by rw [zI_lt (by omega)]; exact q), if_neg (by rw [zI_of, zI_le (by omega)]; omega)], qb_J_laid_29, zI_of]
        exact j_ref1 (d := d + 28) h (by decide)
      · rw [qe_M_laid, qb_M_laid_0, c_M_isOne (d + 28) h1, qbI_some, ea, if_neg (by decide), qb_M_laid_11, h.1.day]
        rw [show (if zI z2 < zI (aD (gS σ) : Nat) then qx (d + 29) qc_M_laid 24 [some (qR (24, 0, 0)), some (qI (zI z1)), some (qI (zI z2)), some (qI (zI z3)), none, none, none, none, none] [] μ else if Int32.ofInt (-1) ≤ zI z3 then qx (d + 29) qc_M_laid 29 [some (qR (24, 0, 0)), some (qI (zI z1)), some (qI (zI z2)), some (qI (zI z3)), none, none, none, none, none] [] μ else qx (d + 29) qc_M_laid 24 [some (qR (24, 0, 0)), some (qI (zI z1)), some (qI (zI z2)), some (qI (zI z3)), none, none, none, none, none] [] μ) = qx (d + 29) qc_M_laid 24 [some (qR (24, 0, 0)), some (qI (zI z1)), some (qI (zI z2)), some (qI (zI z3)), none, none, none, none, none] [] μ by
          by_cases q : z2 < aD (gS σ)
          · rw [if_pos (by rw [zI_lt (by omega)]; exact q)]
          · rw [if_neg (by rw [zI_lt (by omega)]; exact q), if_neg (by rw [zI_of, zI_le (by omega)]; omega)], qb_M_laid_24, qb_M_laid_41, zI_of, if_neg (by decide)]
        exact m_ref1 (d := d + 28) h (by decide)
    · by_cases c : 83 < z2
      · refine ⟨qI (zI (-6)), refS σ 6, fun d μ h => ?_, fun d μ h => ?_, ok.ref⟩
        · rw [qe_J_laid, qb_J_laid_0, c_J_isNobody (d + 28) h1, qbI_some, ea, if_pos (by decide), qb_J_laid_13, h.1.1.day, if_neg (by rw [zI_lt (by omega)]; omega), if_pos (by rw [zI_of, zI_le (by omega)]; omega), qb_J_laid_36, if_neg (by rw [zI_of, zI_le (by omega)]; omega), zI_of]
          exact j_ref1 (d := d + 28) h (by decide)
        · rw [qe_M_laid, qb_M_laid_0, c_M_isOne (d + 28) h1, qbI_some, ea, if_neg (by decide), qb_M_laid_11, h.1.day, if_neg (by rw [zI_lt (by omega)]; omega), if_pos (by rw [zI_of, zI_le (by omega)]; omega), qb_M_laid_29, if_neg (by rw [zI_of, zI_le (by omega)]; omega), qb_M_laid_41, zI_of, if_neg (by decide)]
          exact m_ref1 (d := d + 28) h (by decide)
      · obtain ⟨w, rfl, hw⟩ : ∃ w : Nat, z1 = w ∧ w < 2 := ⟨z1.toNat, by omega, by omega⟩
        obtain ⟨n, rfl, hn, hn2⟩ : ∃ n : Nat, z2 = n ∧ aD (gS σ) ≤ n ∧ n ≤ 83 := ⟨z2.toNat, by omega, by omega, by omega⟩
        have hwd : ∀ i, i < nM (gS σ) w (aP (gS σ) w 0) n → nD (gS σ) w (aP (gS σ) w 0) i % 7 = aP (gS σ) w 0 := fun i _ => nD_wd (ok.1.p hw).1
        refine ⟨qI (zI (if z3 < 0 then (lV (gS σ) w (aP (gS σ) w 0) n : Nat) else onM (wayS (gS σ) (nM (gS σ) w (aP (gS σ) w 0) n) (nD (gS σ) w (aP (gS σ) w 0)) (nM (gS σ) w (aP (gS σ) w 0) n) (unS (gS σ) w) z3.toNat))), σ, fun d μ h => ?_, fun d μ h => ?_, ok⟩
        · obtain ⟨μ1, Q, r1, r2, r3, r4⟩ := j_prep (d + 24) h ok hw hn hn2
          rw [qe_J_laid, qb_J_laid_0, c_J_isNobody (d + 28) h1, qbI_some, ea, if_pos (by decide), qb_J_laid_13, h.1.1.day, if_neg (by rw [zI_lt (by omega)]; omega), if_pos (by rw [zI_of, zI_le (by omega)]; omega), qb_J_laid_36, if_pos (by rw [zI_of, zI_le (by omega)]; omega), qb_J_laid_49, r1, qbR_some (qd5 hw)]
          by_cases q : z3 < 0
          · obtain ⟨μ2, a1, a2, -⟩ := c_Plan_value (d + 13) hw r4 (fun c hc => unS_n hc)
            have ci := r2.pp a2.pl (r4.b a2)
            rw [if_neg (by rw [zI_0, zI_le (by omega)]; omega), a1, qbI_some, qb_J_laid_79, if_pos q]
            exact ⟨μ2, rfl, ci.1, r3.tr ci.2⟩
          · obtain ⟨j, rfl⟩ : ∃ j : Nat, z3 = j := ⟨z3.toNat, by omega⟩
            obtain ⟨μ2, a1, a2⟩ := c_Plan_firstWay (d + 12) (j := j) hw ok.1 r4 (fun c hc => unS_n hc) (by omega)
            have ci := r2.pp a2.pl (r4.b a2)
            rw [if_pos (by rw [zI_0, zI_le (by omega)]; omega), qb_J_laid_73, a1, qbI_some, qb_J_laid_79, if_neg q]
            exact ⟨μ2, rfl, ci.1, r3.tr ci.2⟩
        · obtain ⟨μ1, r1, r2, r3⟩ := c_M_findLaid (d + 24) h.1 ok.1 hw hn hn2
          rw [qe_M_laid, qb_M_laid_0, c_M_isOne (d + 28) h1, qbI_some, ea, if_neg (by decide), qb_M_laid_11, h.1.day, if_neg (by rw [zI_lt (by omega)]; omega), if_pos (by rw [zI_of, zI_le (by omega)]; omega), qb_M_laid_29, if_pos (by rw [zI_of, zI_le (by omega)]; omega), qb_M_laid_40, qb_M_laid_41, if_pos (by decide), qb_M_laid_55, r1, qbV_some]
          refine ⟨μ1, ?_, h.q ok r2, r2.r.md⟩
          by_cases q : z3 < 0
          · obtain ⟨p1, p2, p3, p4⟩ := r3
            have bv := p4 0 (Nat.zero_le _) _ (Nat.and_self _)
            rw [Nat.mul_zero, Nat.zero_add, Nat.sub_zero] at bv
            rw [if_neg (by rw [zI_0, zI_le (by omega)]; omega), if_pos q, p2, zI_oob (n := 53248) (by omega), cond_false, show qix (zI (ownS (gS σ) w (nM (gS σ) w (aP (gS σ) w 0) n) (nD (gS σ) w (aP (gS σ) w 0)) : Nat)) = ownS (gS σ) w (nM (gS σ) w (aP (gS σ) w 0) n) (nD (gS σ) w (aP (gS σ) w 0)) from zI_ixN (by omega), bv]
            refine q_ret ?_
            unfold lV
            rw [own_un ok.1.2.1 _ (Nat.le_refl _)]
          · obtain ⟨j, rfl⟩ : ∃ j : Nat, z3 = j := ⟨z3.toNat, by omega⟩
            rw [if_pos (by rw [zI_0, zI_le (by omega)]; omega), if_neg q, m_way (d + 25) (n := n) (h.1.q r2) ok.1 hw r3 hwd (by omega), Int.toNat_natCast, own_way ok.1.2.1]
  · have ea : decide (z1 = 0 ∨ z1 = 1) = false := decide_eq_false a
    refine ⟨qI (zI (-1)), refS σ 1, fun d μ h => ?_, fun d μ h => ?_, ok.ref⟩
    · rw [qe_J_laid, qb_J_laid_0, c_J_isNobody (d + 28) h1, qbI_some, ea, if_neg (by decide), zI_of]
      exact j_ref1 (d := d + 28) h (by decide)
    · rw [qe_M_laid, qb_M_laid_0, c_M_isOne (d + 28) h1, qbI_some, ea, if_pos (by decide), qb_M_laid_41, zI_of, if_neg (by decide)]
      exact m_ref1 (d := d + 28) h (by decide)
