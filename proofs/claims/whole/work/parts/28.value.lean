/-! values, and the first way -/
def vW (s : AS) (m : Nat) (D : Nat → Nat) (r S : Nat) : Nat := kV (gB s m D) (fW s) (aN s) m r S
theorem vW_le {s : AS} (ok : aOK s) {m : Nat} {D : Nat → Nat} {r S : Nat} (hr : r ≤ 12) : vW s m D r S ≤ 12348 := by
  have := kV_le (g := gB s m D) (F := fW s) (N := aN s) (m := m) (M := 1029) (fun c hc => by have := ok.w hc; unfold fW; omega) r S
  unfold vW
  have : r * 1029 ≤ 12 * 1029 := Nat.mul_le_mul_right _ hr
  omega
theorem bO_vW {s : AS} {m lo S B DB : Nat} {D : Nat → Nat} {Q : List Nat} (hQ : Qok (aW s) S Q) (hB : ∀ c, B.testBit c = true → S.testBit c = true) (hB2 : B < 4096) (hn : ∀ c, S.testBit c = true → c < aN s) (hm : m ≤ 12) (hlo : lo ≤ m) (hs : ∀ i, i < m → (DB ^^^ 4294967295).testBit i = decide (i < lo)) : (bO s m D Q B DB).1 = vW s m D (m - lo) B := by
  unfold bO vW
  refine gf_kV hm hlo hs hB2 (fun c hc => hn c (hB c hc)) (hQ.1.filter _) (fun c => ?_) ((hQ.2.2.filter _).imp fun {a b} h => ?_)
  · rw [List.mem_filter, hQ.2.1]
    exact ⟨fun h => h.2, fun h => ⟨hB c h, h⟩⟩
  · unfold fW
    omega
theorem xor_all {DB i : Nat} (hi : i < 32) : (DB ^^^ 4294967295).testBit i = !DB.testBit i := by
  rw [Nat.testBit_xor, show 4294967295 = 2 ^ 32 - 1 from rfl, Nat.testBit_two_pow_sub_one]
  simp [hi]
theorem days_all {m i : Nat} (hm : m ≤ 12) (hi : i < m) : ((2 ^ m - 1) ^^^ 4294967295).testBit i = decide (i < 0) := by
  rw [xor_all (by omega), Nat.testBit_two_pow_sub_one]
  simp [hi]
theorem days_from : ∀ i, i < 12 → ∀ j, j < 12 → (4294967296 - 2 ^ (i + 1)).testBit j = decide (i < j) := by decide +kernel
theorem c_Plan_allDays (d : Nat) {p m : Nat} {D : Nat → Nat} {μ : QM} (hp : p < 2) (h : PD μ p m D) : qcall qprogs (d + 1) 32 [qR (5, p, 0)] μ = some (some (qI (zI ((2 ^ m - 1 : Nat) : Int))), μ) := by
  have h12 := h.1
  rw [qe_Plan_allDays (h0 := qd5 hp), qb_Plan_allDays_0, h.2.1]
  simp (disch := omega) only [zI_of, zI_31, zI_bit, zI_pm1]
theorem c_Plan_value (d : Nat) {p m S : Nat} {D : Nat → Nat} {s : AS} {Q : List Nat} {μ : QM} (hp : p < 2) (h : PP μ p s m D S Q) (hn : ∀ c, S.testBit c = true → c < aN s) :
    ∃ μ', qcall qprogs (d + 16) 33 [qR (5, p, 0)] μ = some (some (qI (zI (vW s m D m S : Nat))), μ') ∧ FrB p μ μ' ∧ μ'.1 (5, p, 0) 8 = zI ((bO s m D Q S (2 ^ m - 1)).2 : Nat) := by
  obtain ⟨μ', r1, r2, r3⟩ := c_Plan_bestOf d (B := S) (DB := 2 ^ m - 1) hp h
  have hb := bO_vW h.2.2.2.2 (fun c hc => hc) h.2.2.1.1 hn h.1.1 (Nat.zero_le m) (fun i hi => days_all h.1.1 hi) (D := D)
  rw [hb] at r1
  refine ⟨μ', ?_, r2, r3⟩
  rw [qe_Plan_value (h0 := qd5 hp), qb_Plan_value_0, c_Plan_allDays (d + 14) hp h.1, qbI_some, h.2.2.1.2.1, r1, qbI_some]
  rfl
theorem nd_sub {a b c : Nat} (h : (nd a b).testBit c = true) : a.testBit c = true := by
  rw [nd_bit, Bool.and_eq_true] at h
  exact h.1
theorem c_Plan_valueWithout (d : Nat) {p m S b : Nat} {D : Nat → Nat} {s : AS} {Q : List Nat} {μ : QM} (hp : p < 2) (h : PP μ p s m D S Q) (hn : ∀ c, S.testBit c = true → c < aN s) :
    ∃ μ', qcall qprogs (d + 16) 34 [qR (5, p, 0), qI (zI (b : Nat))] μ = some (some (qI (zI (vW s m D m (nd S b) : Nat))), μ') ∧ FrB p μ μ' := by
  obtain ⟨μ', r1, r2, r3⟩ := c_Plan_bestOf d (B := nd S b) (DB := 2 ^ m - 1) hp h
  have hb := bO_vW h.2.2.2.2 (fun c hc => nd_sub hc) (Nat.lt_of_le_of_lt (nd_le S b) h.2.2.1.1) hn h.1.1 (Nat.zero_le m) (fun i hi => days_all h.1.1 hi) (D := D)
  rw [hb] at r1
  refine ⟨μ', ?_, r2⟩
  rw [qe_Plan_valueWithout (h0 := qd5 hp), qb_Plan_valueWithout_0, c_Plan_allDays (d + 14) hp h.1, qbI_some, h.2.2.1.2.1, zI_of, zI_nd, r1, qbI_some]
  rfl
/-- the first of k from c -/
def ffr (P : Nat → Bool) : Nat → Nat → Option Nat
  | 0, _ => none
  | k + 1, c => if P c = true then some c else ffr P k (c + 1)
theorem ffr_s (P : Nat → Bool) (k c : Nat) : ffr P (k + 1) c = if P c = true then some c else ffr P k (c + 1) := rfl
theorem ffr_some {P : Nat → Bool} {b : Nat} : ∀ k c, ffr P k c = some b → c ≤ b ∧ b < c + k ∧ P b = true
  | 0, _, h => by cases h
  | k + 1, c, h => by
    unfold ffr at h
    split at h
    · rename_i hp
      cases h
      exact ⟨Nat.le_refl _, by omega, hp⟩
    · have := ffr_some k (c + 1) h
      exact ⟨by omega, by omega, this.2.2⟩
theorem ffr_none {P : Nat → Bool} : ∀ k c, ffr P k c = none → ∀ b, c ≤ b → b < c + k → P b = false
  | 0, _, _, b, h1, h2 => absurd h2 (by omega)
  | k + 1, c, h, b, h1, h2 => by
    unfold ffr at h
    split at h
    · cases h
    · rename_i hp
      by_cases e : b = c
      · subst e; simpa using hp
      · exact ffr_none k (c + 1) h b (by omega) (by omega)
theorem ffr_cut {P : Nat → Bool} {N : Nat} (h : ∀ c, N ≤ c → P c = false) : ∀ k k' c, N ≤ c + k → N ≤ c + k' → ffr P k c = ffr P k' c
  | 0, 0, _, _, _ => rfl
  | 0, k' + 1, c, h1, h2 => by
    unfold ffr
    rw [h c (by omega), if_neg (by decide), ← ffr_cut h 0 k' (c + 1) (by omega) (by omega)]
    rfl
  | k + 1, 0, c, h1, h2 => by
    unfold ffr
    rw [h c (by omega), if_neg (by decide), ffr_cut h k 0 (c + 1) (by omega) (by omega)]
    rfl
  | k + 1, k' + 1, c, h1, h2 => by
    unfold ffr
    rw [ffr_cut h k k' (c + 1) (by omega) (by omega)]
/-- the causes by which the value V can be reached from day i -/
def isW (s : AS) (m : Nat) (D : Nat → Nat) (i left V c : Nat) : Bool := left.testBit c && (gB s m D c i && decide (vW s m D (m - (i + 1)) (nd left (2 ^ c)) + fW s c = V))
theorem c_Plan_firstOn (d : Nat) {p m S i left V : Nat} {D : Nat → Nat} {s : AS} {Q : List Nat} {μ : QM} (hp : p < 2) (ok : aOK s) (h : PP μ p s m D S Q) (hn : ∀ c, S.testBit c = true → c < aN s) (hl : ∀ c, left.testBit c = true → S.testBit c = true) (hl2 : left < 4096) (hi : i < m) (hV : V ≤ 100000) :
    ∃ μ', qcall qprogs (d + 16) 38 [qR (5, p, 0), qI (zI (i : Nat)), qI (zI (left : Nat)), qI (zI (V : Nat))] μ = some (some (qO ((ffr (isW s m D i left V) 12 0).map (fun c => (6, p, c)))), μ') ∧ FrB p μ μ' := by
  have m12 := h.1.1
  have n12 := ok.2.1
  have L : ∀ k c μ1, c + k = 12 → FrB p μ μ1 → ∃ μ', qx (d + 15) qc_Plan_firstOn 14 [some (qR (5, p, 0)), some (qI (zI (i : Nat))), some (qI (zI (left : Nat))), some (qI (zI (V : Nat))), some (qI (zI ((((2 ^ m - 1) &&& (4294967296 - 2 ^ (i + 1))) : Nat) : Int))), some (qI (zI (c : Nat))), none, none] [] μ1 = some (some (qO ((ffr (isW s m D i left V) k c).map (fun c => (6, p, c)))), μ') ∧ FrB p μ μ' := by
    intro k
    induction k with
    | zero =>
      intro c μ1 hc fr
      rw [qb_Plan_firstOn_14]
      simp (disch := omega) only [zI_of, zI_0, zI_1, zI_add, zI_sub, zI_mul, zI_neg, zI_lt, zI_le, zI_eq, zI_rem, zI_oob, zI_ixN, zI_ix, zI_ite, zI10, zI01, Int.toNat_natCast, cond_false, cond_true, q01_0, q01_1, q01_0z, q01_1z, qB_if, qB_ifz, qB_ret, qB_retz, qbI_some, qbV_some, qbL_some, qbR_some, qbN_some, qbN_none, true_or, or_true, false_or, or_false, if_true, if_false, Int.reduceEq, Int.reduceLT, Int.reduceLE, Int.reduceNeg, qb_Plan_firstOn_95]
      rw [if_pos (by omega)]
      exact ⟨μ1, rfl, fr⟩
    | succ k ih =>
      intro c μ1 hc fr
      have cc : c < 12 := by omega
      have skip : isW s m D i left V c = false → ∃ μ', qx (d + 15) qc_Plan_firstOn 89 [some (qR (5, p, 0)), some (qI (zI (i : Nat))), some (qI (zI (left : Nat))), some (qI (zI (V : Nat))), some (qI (zI ((((2 ^ m - 1) &&& (4294967296 - 2 ^ (i + 1))) : Nat) : Int))), some (qI (zI (c : Nat))), none, none] [] μ1 = some (some (qO ((ffr (isW s m D i left V) (k + 1) c).map (fun c => (6, p, c)))), μ') ∧ FrB p μ μ' := fun hb => by
        unfold ffr
        rw [hb, if_neg (by decide), qb_Plan_firstOn_89]
        simp (disch := omega) only [zI_of, zI_0, zI_1, zI_add, zI_sub, zI_mul, zI_neg, zI_lt, zI_le, zI_eq, zI_rem, zI_oob, zI_ixN, zI_ix, zI_ite, zI10, zI01, Int.toNat_natCast, cond_false, cond_true, q01_0, q01_1, q01_0z, q01_1z, qB_if, qB_ifz, qB_ret, qB_retz, qbI_some, qbV_some, qbL_some, qbR_some, qbN_some, qbN_none, true_or, or_true, false_or, or_false, if_true, if_false, Int.reduceEq, Int.reduceLT, Int.reduceLE, Int.reduceNeg]
        exact ih (c + 1) μ1 (by omega) fr
      rw [qb_Plan_firstOn_14]
      simp (disch := omega) only [zI_of, zI_0, zI_1, zI_add, zI_sub, zI_mul, zI_neg, zI_lt, zI_le, zI_eq, zI_rem, zI_oob, zI_ixN, zI_ix, zI_ite, zI10, zI01, Int.toNat_natCast, cond_false, cond_true, q01_0, q01_1, q01_0z, q01_1z, qB_if, qB_ifz, qB_ret, qB_retz, qbI_some, qbV_some, qbL_some, qbR_some, qbN_some, qbN_none, true_or, or_true, false_or, or_false, if_true, if_false, Int.reduceEq, Int.reduceLT, Int.reduceLE, Int.reduceNeg, zI_31, zI_bit, zI_and, tb_if]
      rw [if_neg (by omega)]
      cases hb : left.testBit c
      · exact skip (by unfold isW; rw [hb]; rfl)
      · simp only [cond_true]
        obtain ⟨-, f1, f2, f3⟩ := (h.b fr).2.2.1.2.2 c (hl c hb)
        rw [f3]
        simp (disch := omega) only [zI_of, zI_0, zI_1, zI_add, zI_sub, zI_mul, zI_neg, zI_lt, zI_le, zI_eq, zI_rem, zI_oob, zI_ixN, zI_ix, zI_ite, zI10, zI01, Int.toNat_natCast, cond_false, cond_true, q01_0, q01_1, q01_0z, q01_1z, qB_if, qB_ifz, qB_ret, qB_retz, qbI_some, qbV_some, qbL_some, qbR_some, qbN_some, qbN_none, true_or, or_true, false_or, or_false, if_true, if_false, Int.reduceEq, Int.reduceLT, Int.reduceLE, Int.reduceNeg, zI_31, zI_bit, zI_and, tb_if]
        cases hg : (gdB s m D c).testBit i
        · exact skip (by unfold isW gB; rw [hb, hg]; rfl)
        · simp only [cond_true]
          rw [qb_Plan_firstOn_54, show zI (left : Nat) &&& (((Int32.ofInt 1) <<< (zI (c : Nat) &&& 31)) ^^^ (Int32.ofInt (-1))) = zI (nd left (2 ^ c) : Nat) by rw [zI_of, zI_of, zI_31, zI_bit (by omega), zI_nd]]
          obtain ⟨μ2, r1, r2, -⟩ := c_Plan_bestOf d (B := nd left (2 ^ c)) (DB := ((2 ^ m - 1) &&& (4294967296 - 2 ^ (i + 1)))) hp (h.b fr)
          have hv := bO_vW (lo := i + 1) (DB := ((2 ^ m - 1) &&& (4294967296 - 2 ^ (i + 1)))) (D := D) h.2.2.2.2 (fun x hx => hl x (nd_sub hx)) (Nat.lt_of_le_of_lt (nd_le left (2 ^ c)) hl2) hn m12 (by omega) (fun j hj => by
            rw [xor_all (by omega), Nat.testBit_and, Nat.testBit_two_pow_sub_one, days_from i (by omega) j (by omega)]
            by_cases q : i < j
            · have : ¬ j < i + 1 := by omega
              simp [hj, q, this]
            · have : j < i + 1 := by omega
              simp [q, this])
          rw [hv] at r1
          obtain ⟨-, f1, -, -⟩ := ((h.b fr).b r2).2.2.1.2.2 c (hl c hb)
          rw [r1, qbI_some, f1]
          have b1 := vW_le ok (m := m) (D := D) (r := m - (i + 1)) (S := nd left (2 ^ c)) (by omega)
          have b2 := ok.w (hn c (hl c hb))
          have fr2 := fr.tr r2
          simp (disch := omega) only [zI_of, zI_0, zI_1, zI_add, zI_sub, zI_mul, zI_neg, zI_lt, zI_le, zI_eq, zI_rem, zI_oob, zI_ixN, zI_ix, zI_ite, zI10, zI01, Int.toNat_natCast, cond_false, cond_true, q01_0, q01_1, q01_0z, q01_1z, qB_if, qB_ifz, qB_ret, qB_retz, qbI_some, qbV_some, qbL_some, qbR_some, qbN_some, qbN_none, true_or, or_true, false_or, or_false, if_true, if_false, Int.reduceEq, Int.reduceLT, Int.reduceLE, Int.reduceNeg]
          by_cases e : vW s m D (m - (i + 1)) (nd left (2 ^ c)) + fW s c = V
          · rw [if_pos (by unfold fW at e; omega)]
            have hw : isW s m D i left V c = true := by unfold isW gB; rw [hb, hg, decide_eq_true e]; rfl
            unfold ffr
            rw [hw, if_pos rfl]
            exact ⟨μ2, rfl, fr2⟩
          · rw [if_neg (by unfold fW at e; omega)]
            unfold ffr
            have hw : isW s m D i left V c = false := by unfold isW gB; rw [hb, hg, decide_eq_false e]; rfl
            rw [hw, if_neg (by decide), qb_Plan_firstOn_89]
            simp (disch := omega) only [zI_of, zI_0, zI_1, zI_add, zI_sub, zI_mul, zI_neg, zI_lt, zI_le, zI_eq, zI_rem, zI_oob, zI_ixN, zI_ix, zI_ite, zI10, zI01, Int.toNat_natCast, cond_false, cond_true, q01_0, q01_1, q01_0z, q01_1z, qB_if, qB_ifz, qB_ret, qB_retz, qbI_some, qbV_some, qbL_some, qbR_some, qbN_some, qbN_none, true_or, or_true, false_or, or_false, if_true, if_false, Int.reduceEq, Int.reduceLT, Int.reduceLE, Int.reduceNeg]
            exact ih (c + 1) μ2 (by omega) fr2
  rw [qe_Plan_firstOn (h0 := qd5 hp), qb_Plan_firstOn_0, c_Plan_allDays (d + 14) hp h.1, qbI_some]
  have e : zI ((2 ^ m - 1 : Nat) : Int) &&& -(Int32.ofInt 2 <<< (zI (i : Nat) &&& 31)) = zI ((((2 ^ m - 1) &&& (4294967296 - 2 ^ (i + 1))) : Nat) : Int) := by
    have h2 : ∀ i, i < 12 → -(Int32.ofInt 2 <<< (zI (i : Nat) &&& 31)) = zI ((4294967296 - 2 ^ (i + 1) : Nat) : Int) := by decide +kernel
    rw [h2 i (by omega), zI_and]
  rw [e, zI_of]
  exact L 12 0 μ (by omega) FrB.rf
/-- what is left behind a day -/
def lft (left : Nat) : Option Nat → Nat
  | none => left
  | some c => nd left (2 ^ c)
/-- the cause of the j-th day from here by the first way -/
def wayS (s : AS) (m : Nat) (D : Nat → Nat) : Nat → Nat → Nat → Option Nat
  | 0, _, _ => none
  | r + 1, left, j => if j = 0 then ffr (isW s m D (m - (r + 1)) left (vW s m D (r + 1) left)) 12 0 else wayS s m D r (lft left (ffr (isW s m D (m - (r + 1)) left (vW s m D (r + 1) left)) 12 0)) (j - 1)
theorem wayS_s (s : AS) (m : Nat) (D : Nat → Nat) (r left j : Nat) : wayS s m D (r + 1) left j = if j = 0 then ffr (isW s m D (m - (r + 1)) left (vW s m D (r + 1) left)) 12 0 else wayS s m D r (lft left (ffr (isW s m D (m - (r + 1)) left (vW s m D (r + 1) left)) 12 0)) (j - 1) := rfl
/-- what is left behind the first way's day is worth what it must -/
theorem way_step {s : AS} {m r left : Nat} {D : Nat → Nat} (hr : r + 1 ≤ m) (hl : ∀ c, left.testBit c = true → c < aN s) (hn : aN s ≤ 12) : vW s m D (r + 1) left = vW s m D r (lft left (ffr (isW s m D (m - (r + 1)) left (vW s m D (r + 1) left)) 12 0)) + kw (fW s) (ffr (isW s m D (m - (r + 1)) left (vW s m D (r + 1) left)) 12 0) := by
  have e1 : m - (m - (r + 1) + 1) = r := by omega
  cases hf : ffr (isW s m D (m - (r + 1)) left (vW s m D (r + 1) left)) 12 0 with
  | some c =>
    obtain ⟨-, -, h3⟩ := ffr_some 12 0 hf
    unfold isW at h3
    simp only [Bool.and_eq_true, decide_eq_true_eq, e1] at h3
    exact h3.2.2.symm
  | none =>
    have h0 := ffr_none 12 0 hf
    show vW s m D (r + 1) left = vW s m D r left + 0
    rcases imx_is (h := fun c => if left.testBit c = true ∧ gB s m D c (m - (r + 1)) = true then kV (gB s m D) (fW s) (aN s) m r (nd left (2 ^ c)) + fW s c else 0) (b := kV (gB s m D) (fW s) (aN s) m r left) (aN s) with q | ⟨c, q1, q2⟩
    · exact q
    · have h5 := h0 c (Nat.zero_le _) (by omega)
      by_cases hh : left.testBit c = true ∧ gB s m D c (m - (r + 1)) = true
      · rw [if_pos hh] at q2
        unfold isW at h5
        rw [hh.1, hh.2, e1] at h5
        rw [show vW s m D (r + 1) left = vW s m D r (nd left (2 ^ c)) + fW s c from q2] at h5
        simp at h5
      · rw [if_neg hh] at q2
        have := imx_b (h := fun c => if left.testBit c = true ∧ gB s m D c (m - (r + 1)) = true then kV (gB s m D) (fW s) (aN s) m r (nd left (2 ^ c)) + fW s c else 0) (b := kV (gB s m D) (fW s) (aN s) m r left) (aN s)
        show imx _ _ (aN s) = kV (gB s m D) (fW s) (aN s) m r left + 0
        omega
theorem c_Plan_firstWay (d : Nat) {p m S j : Nat} {D : Nat → Nat} {s : AS} {Q : List Nat} {μ : QM} (hp : p < 2) (ok : aOK s) (h : PP μ p s m D S Q) (hn : ∀ c, S.testBit c = true → c < aN s) (hj : j < 2147483648) :
    ∃ μ', qcall qprogs (d + 17) 37 [qR (5, p, 0), qI (zI (j : Nat))] μ = some (some (qI (zI (onM (wayS s m D m S j)))), μ') ∧ FrB p μ μ' := by
  have m12 := h.1.1
  have n12 := ok.2.1
  have L : ∀ r i left μ1, i + r = m → i ≤ j → FrB p μ μ1 → (∀ c, left.testBit c = true → S.testBit c = true) → left < 4096 → ∃ μ', qx (d + 16) qc_Plan_firstWay 13 [some (qR (5, p, 0)), some (qI (zI (j : Nat))), some (qI (zI (left : Nat))), some (qI (zI (vW s m D r left : Nat))), some (qI (zI (i : Nat))), none] [] μ1 = some (some (qI (zI (onM (wayS s m D r left (j - i))))), μ') ∧ FrB p μ μ' := by
    intro r
    induction r with
    | zero =>
      intro i left μ1 hi hij fr hl hl2
      rw [qb_Plan_firstWay_13, (h.b fr).1.2.1]
      simp (disch := omega) only [zI_of, zI_0, zI_1, zI_add, zI_sub, zI_mul, zI_neg, zI_lt, zI_le, zI_eq, zI_rem, zI_oob, zI_ixN, zI_ix, zI_ite, zI10, zI01, Int.toNat_natCast, cond_false, cond_true, q01_0, q01_1, q01_0z, q01_1z, qB_if, qB_ifz, qB_ret, qB_retz, qbI_some, qbV_some, qbL_some, qbR_some, qbN_some, qbN_none, true_or, or_true, false_or, or_false, if_true, if_false, Int.reduceEq, Int.reduceLT, Int.reduceLE, Int.reduceNeg, qb_Plan_firstWay_89]
      rw [if_pos (by omega)]
      exact ⟨μ1, rfl, fr⟩
    | succ r ih =>
      intro i left μ1 hi hij fr hl hl2
      have hv := way_step (s := s) (m := m) (r := r) (left := left) (D := D) (by omega) (fun c hc => hn c (hl c hc)) n12
      have hv2 := vW_le ok (m := m) (D := D) (r := r + 1) (S := left) (by omega)
      obtain ⟨μ2, r1, r2⟩ := c_Plan_firstOn d (i := i) (left := left) (V := vW s m D (r + 1) left) hp ok (h.b fr) hn hl hl2 (by omega) (by omega)
      have fr2 := fr.tr r2
      have ei : m - (r + 1) = i := by omega
      unfold wayS
      rw [ei] at hv ⊢
      rw [qb_Plan_firstWay_13, (h.b fr).1.2.1]
      simp (disch := omega) only [zI_of, zI_0, zI_1, zI_add, zI_sub, zI_mul, zI_neg, zI_lt, zI_le, zI_eq, zI_rem, zI_oob, zI_ixN, zI_ix, zI_ite, zI10, zI01, Int.toNat_natCast, cond_false, cond_true, q01_0, q01_1, q01_0z, q01_1z, qB_if, qB_ifz, qB_ret, qB_retz, qbI_some, qbV_some, qbL_some, qbR_some, qbN_some, qbN_none, true_or, or_true, false_or, or_false, if_true, if_false, Int.reduceEq, Int.reduceLT, Int.reduceLE, Int.reduceNeg]
      rw [if_neg (by omega), r1]
      cases hf : ffr (isW s m D i left (vW s m D (r + 1) left)) 12 0 with
      | none =>
        rw [hf] at hv
        rw [Option.map_none, qbN_none]
        by_cases e : i = j
        · rw [if_pos (by omega), if_pos (by omega)]
          simp (disch := omega) only [zI_of, zI_0, zI_1, zI_add, zI_sub, zI_mul, zI_neg, zI_lt, zI_le, zI_eq, zI_rem, zI_oob, zI_ixN, zI_ix, zI_ite, zI10, zI01, Int.toNat_natCast, cond_false, cond_true, q01_0, q01_1, q01_0z, q01_1z, qB_if, qB_ifz, qB_ret, qB_retz, qbI_some, qbV_some, qbL_some, qbR_some, qbN_some, qbN_none, true_or, or_true, false_or, or_false, if_true, if_false, Int.reduceEq, Int.reduceLT, Int.reduceLE, Int.reduceNeg, qb_Plan_firstWay_53]
          exact ⟨μ2, rfl, fr2⟩
        · rw [if_neg (by omega), if_neg (by omega), qb_Plan_firstWay_54, qb_Plan_firstWay_83]
          simp (disch := omega) only [zI_of, zI_0, zI_1, zI_add, zI_sub, zI_mul, zI_neg, zI_lt, zI_le, zI_eq, zI_rem, zI_oob, zI_ixN, zI_ix, zI_ite, zI10, zI01, Int.toNat_natCast, cond_false, cond_true, q01_0, q01_1, q01_0z, q01_1z, qB_if, qB_ifz, qB_ret, qB_retz, qbI_some, qbV_some, qbL_some, qbR_some, qbN_some, qbN_none, true_or, or_true, false_or, or_false, if_true, if_false, Int.reduceEq, Int.reduceLT, Int.reduceLE, Int.reduceNeg]
          have q := ih (i + 1) left μ2 (by omega) (by omega) fr2 hl hl2
          rw [show vW s m D (r + 1) left = vW s m D r left from hv]
          rw [show j - i - 1 = j - (i + 1) by omega]
          exact q
      | some c =>
        obtain ⟨-, c12, c3⟩ := ffr_some 12 0 hf
        have hlc : left.testBit c = true := by unfold isW at c3; rw [Bool.and_eq_true] at c3; exact c3.1
        obtain ⟨-, f1, -, -⟩ := (h.b fr2).2.2.1.2.2 c (hl c hlc)
        have f0 := (h.b fr2).2.1 c (by omega)
        rw [hf] at hv
        rw [Option.map_some, qbN_some (qd6 hp (by omega))]
        by_cases e : i = j
        · rw [if_pos (by omega), if_pos (by omega), qb_Plan_firstWay_48, f0, qb_Plan_firstWay_53]
          exact ⟨μ2, rfl, fr2⟩
        · rw [if_neg (by omega), if_neg (by omega), qb_Plan_firstWay_54b, f0, f1, qb_Plan_firstWay_83]
          rw [show zI (left : Nat) &&& (((Int32.ofInt 1) <<< (zI (c : Nat) &&& 31)) ^^^ (Int32.ofInt (-1))) = zI (nd left (2 ^ c) : Nat) by rw [zI_of, zI_of, zI_31, zI_bit (by omega), zI_nd]]
          have e3 : vW s m D (r + 1) left = vW s m D r (nd left (2 ^ c)) + fW s c := hv
          rw [show zI (vW s m D (r + 1) left : Nat) - (Int32.ofInt 1000 + zI (aW s c : Nat)) = zI (vW s m D r (nd left (2 ^ c)) : Nat) by
            rw [zI_of, zI_add, zI_sub, e3]; refine zI_congr ?_; unfold fW; omega]
          simp (disch := omega) only [zI_of, zI_0, zI_1, zI_add, zI_sub, zI_mul, zI_neg, zI_lt, zI_le, zI_eq, zI_rem, zI_oob, zI_ixN, zI_ix, zI_ite, zI10, zI01, Int.toNat_natCast, cond_false, cond_true, q01_0, q01_1, q01_0z, q01_1z, qB_if, qB_ifz, qB_ret, qB_retz, qbI_some, qbV_some, qbL_some, qbR_some, qbN_some, qbN_none, true_or, or_true, false_or, or_false, if_true, if_false, Int.reduceEq, Int.reduceLT, Int.reduceLE, Int.reduceNeg]
          rw [show j - i - 1 = j - (i + 1) by omega]
          exact ih (i + 1) (nd left (2 ^ c)) μ2 (by omega) (by omega) fr2 (fun x hx => hl x (nd_sub hx)) (Nat.lt_of_le_of_lt (nd_le _ _) hl2)
  obtain ⟨μ1, r1, r2, -⟩ := c_Plan_value d hp h hn
  rw [qe_Plan_firstWay (h0 := qd5 hp), qb_Plan_firstWay_0, r1, qbI_some, h.2.2.1.2.1, zI_of]
  exact L m 0 S μ1 (by omega) (Nat.zero_le _) r2 (fun c hc => hc) h.2.2.1.1
