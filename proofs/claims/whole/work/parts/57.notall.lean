section
/-! bits counted; days that can not all have a cause -/
def bcS1 (x : Int32) : Int32 := x - (((x.toUInt32 >>> ((Int32.ofInt 1).toUInt32 &&& Int32.toUInt32 31)).toInt32) &&& (Int32.ofInt 1431655765))
def bcS2 (x : Int32) : Int32 := (x &&& (Int32.ofInt 858993459)) + (((x.toUInt32 >>> ((Int32.ofInt 2).toUInt32 &&& Int32.toUInt32 31)).toInt32) &&& (Int32.ofInt 858993459))
def bcS3 (x : Int32) : Int32 := (x + ((x.toUInt32 >>> ((Int32.ofInt 4).toUInt32 &&& Int32.toUInt32 31)).toInt32)) &&& (Int32.ofInt 252645135)
def bcS4 (x : Int32) : Int32 := x + ((x.toUInt32 >>> ((Int32.ofInt 8).toUInt32 &&& Int32.toUInt32 31)).toInt32)
def bcS5 (x : Int32) : Int32 := (x + ((x.toUInt32 >>> ((Int32.ofInt 16).toUInt32 &&& Int32.toUInt32 31)).toInt32)) &&& (Int32.ofInt 63)
def bcN1 (n : Nat) : Nat := n - (n / 2 ^ 1 &&& 1431655765)
def bcN2 (n : Nat) : Nat := (n &&& 858993459) + (n / 2 ^ 2 &&& 858993459)
def bcN3 (n : Nat) : Nat := (n + n / 2 ^ 4) &&& 252645135
def bcN4 (n : Nat) : Nat := n + n / 2 ^ 8
def bcN5 (n : Nat) : Nat := (n + n / 2 ^ 16) &&& 63
theorem bcS1_N {n : Nat} (h : n < 4096) : bcS1 (zI (n : Nat)) = zI (bcN1 n : Nat) := by
  unfold bcS1 bcN1
  rw [show ((zI (n : Nat)).toUInt32 >>> ((Int32.ofInt 1).toUInt32 &&& Int32.toUInt32 31)).toInt32 = zI ((n / 2 ^ 1 : Nat) : Int) by rw [zI_nI, zI_nI]; exact pk_ushrN (by omega) _ 1 (by decide +kernel), zI_of, show zI (1431655765 : Int) = zI ((1431655765 : Nat) : Int) from rfl, zI_and]
  exact zI_subN (Nat.le_trans Nat.and_le_left (by omega))
theorem bcS2_N {n : Nat} (h : n < 4096) : bcS2 (zI (n : Nat)) = zI (bcN2 n : Nat) := by
  unfold bcS2 bcN2
  rw [show ((zI (n : Nat)).toUInt32 >>> ((Int32.ofInt 2).toUInt32 &&& Int32.toUInt32 31)).toInt32 = zI ((n / 2 ^ 2 : Nat) : Int) by rw [zI_nI, zI_nI]; exact pk_ushrN (by omega) _ 2 (by decide +kernel), zI_of, show zI (858993459 : Int) = zI ((858993459 : Nat) : Int) from rfl, zI_and, zI_and, zI_addN]
theorem bcS3_N {n : Nat} (h : n < 65536) : bcS3 (zI (n : Nat)) = zI (bcN3 n : Nat) := by
  unfold bcS3 bcN3
  rw [show ((zI (n : Nat)).toUInt32 >>> ((Int32.ofInt 4).toUInt32 &&& Int32.toUInt32 31)).toInt32 = zI ((n / 2 ^ 4 : Nat) : Int) by rw [zI_nI, zI_nI]; exact pk_ushrN (by omega) _ 4 (by decide +kernel), zI_of, show zI (252645135 : Int) = zI ((252645135 : Nat) : Int) from rfl, zI_addN, zI_and]
theorem bcS4_N {n : Nat} (h : n < 262144) : bcS4 (zI (n : Nat)) = zI (bcN4 n : Nat) := by
  unfold bcS4 bcN4
  rw [show ((zI (n : Nat)).toUInt32 >>> ((Int32.ofInt 8).toUInt32 &&& Int32.toUInt32 31)).toInt32 = zI ((n / 2 ^ 8 : Nat) : Int) by rw [zI_nI, zI_nI]; exact pk_ushrN (by omega) _ 8 (by decide +kernel), zI_addN]
theorem bcS5_N {n : Nat} (h : n < 1048576) : bcS5 (zI (n : Nat)) = zI (bcN5 n : Nat) := by
  unfold bcS5 bcN5
  rw [show ((zI (n : Nat)).toUInt32 >>> ((Int32.ofInt 16).toUInt32 &&& Int32.toUInt32 31)).toInt32 = zI ((n / 2 ^ 16 : Nat) : Int) by rw [zI_nI, zI_nI]; exact pk_ushrN (by omega) _ 16 (by decide +kernel), zI_of, show zI (63 : Int) = zI ((63 : Nat) : Int) from rfl, zI_addN, zI_and]
theorem bcN_ok2 : ∀ a, a < 64 → ∀ b, b < 64 → bcN5 (bcN4 (bcN3 (bcN2 (bcN1 (64 * a + b))))) = cntB (64 * a + b).testBit 12 := by decide +kernel
theorem bcN_ok (n : Nat) (h : n < 4096) : bcN5 (bcN4 (bcN3 (bcN2 (bcN1 n)))) = cntB n.testBit 12 := by
  have := bcN_ok2 (n / 64) (by omega) (n % 64) (by omega)
  rw [Nat.div_add_mod] at this
  exact this
theorem c_bitCount (d : Nat) {n : Nat} {μ : QM} (h : n < 4096) : qcall qprogs (d + 1) 265 [qI (zI (n : Nat))] μ = some (some (qI (zI (cntB n.testBit 12 : Nat))), μ) := by
  have l1 : bcN1 n ≤ n := Nat.sub_le _ _
  have l2 : bcN2 (bcN1 n) ≤ bcN1 n + bcN1 n := Nat.add_le_add Nat.and_le_left (Nat.le_trans Nat.and_le_left (Nat.div_le_self _ _))
  have l3 : bcN3 (bcN2 (bcN1 n)) ≤ bcN2 (bcN1 n) + bcN2 (bcN1 n) := Nat.le_trans Nat.and_le_left (Nat.add_le_add_left (Nat.div_le_self _ _) _)
  have l4 : bcN4 (bcN3 (bcN2 (bcN1 n))) ≤ bcN3 (bcN2 (bcN1 n)) + bcN3 (bcN2 (bcN1 n)) := Nat.add_le_add_left (Nat.div_le_self _ _) _
  have e : bcS5 (bcS4 (bcS3 (bcS2 (bcS1 (zI (n : Nat)))))) = zI (cntB n.testBit 12 : Nat) := by
    rw [bcS1_N h, bcS2_N (by omega), bcS3_N (by omega), bcS4_N (by omega), bcS5_N (by omega), bcN_ok n h]
  rw [← e]
  exact (qe_Int_bitCount d (zI (n : Nat)) μ).trans (qb_Int_bitCount_0 d (zI (n : Nat)) μ)
theorem cntB_congr {P Q : Nat → Bool} : ∀ n, (∀ i, i < n → P i = Q i) → cntB P n = cntB Q n
  | 0, _ => rfl
  | n + 1, h => by
    rw [cntB_s, cntB_s, cntB_congr n (fun i hi => h i (by omega)), h n (by omega)]
theorem tb12 {n i : Nat} (h : n < 4096) (hi : 12 ≤ i) : n.testBit i = false := Nat.testBit_lt_two_pow (Nat.lt_of_lt_of_le h (show 2 ^ 12 ≤ 2 ^ i from Nat.pow_le_pow_right (by decide) hi))
theorem c_M_bits (d : Nat) {n : Nat} {μ : QM} (h : n < 4096) : qcall qprogs (d + 1) 158 [qI (zI (n : Nat))] μ = some (some (qI (zI (cntB n.testBit 12 : Nat))), μ) := by
  have L : ∀ r k, k + r = 31 → qx d qc_M_bits 4 [some (qI (zI (n : Nat))), some (qI (zI (cntB n.testBit k : Nat))), some (qI (zI (k : Nat)))] [] μ = some (some (qI (zI (cntB n.testBit 31 : Nat))), μ) := by
    intro r
    induction r with
    | zero =>
      intro k hk
      rw [qb_M_bits_4, zI_of, if_pos (by rw [zI_le (by omega)]; omega), qb_M_bits_24, show k = 31 by omega]
    | succ r ih =>
      intro k hk
      have i1 := ih (k + 1) (by omega)
      have hb := bit_of (T := n) (c := k)
      have hlt : (n / 2 ^ k &&& 1 : Nat) < 2 := by rw [Nat.and_one_is_mod]; omega
      have ev : (n / 2 ^ k &&& 1 : Nat) = if n.testBit k = true then 1 else 0 := by
        cases hq : n.testBit k
        · rw [hq] at hb
          have : ¬ ((n / 2 ^ k &&& 1 : Nat) = 1) := fun z => by cases hb.mp z
          show _ = 0
          omega
        · rw [hb.mpr hq]; rfl
      rw [cntB_s, ← ev] at i1
      rw [qb_M_bits_4, if_neg (by rw [zI_of, zI_le (by omega)]; omega), zI_shr ⟨by omega, by omega⟩, show Int32.ofInt 1 = zI ((1 : Nat) : Int) by rw [zI_of]; rfl, zI_and, zI_addN, zI_addN]
      exact i1
  have e : cntB n.testBit 31 = cntB n.testBit 12 := cntB_flat (a := 12) 19 (fun i a _ => tb12 h a)
  rw [qe_M_bits, qb_M_bits_0, zI_of]
  rw [← e]
  exact L 31 0 (by decide)
/-- good causes for a set of days -/
def qn (s : AS) (w m : Nat) (D : Nat → Nat) (S c : Nat) : Bool := anyB (fun i => S.testBit i && ((unS s w).testBit c && gB s m D c i)) 8
theorem anyB_s (P : Nat → Bool) (n : Nat) : anyB P (n + 1) = (anyB P n || P n) := rfl
theorem anyB_cut {P : Nat → Bool} {N : Nat} (h : ∀ i, N ≤ i → P i = false) : ∀ k, anyB P (N + k) = anyB P N
  | 0 => rfl
  | k + 1 => by
    show anyB P (N + k + 1) = _
    rw [anyB_s, anyB_cut h k, h (N + k) (by omega), Bool.or_false]
theorem c_Plan_causesGoodOn (d : Nat) {p m S i : Nat} {D : Nat → Nat} {s : AS} {Q : List Nat} {μ : QM} (hp : p < 2) (h : PP μ p s m D S Q) (hi : i < 12) : qcall qprogs (d + 1) 39 [qR (5, p, 0), qI (zI (i : Nat))] μ = some (some (qI (zI (mk (fun c => S.testBit c && gB s m D c i) 12 : Nat))), μ) := by
  obtain ⟨hD, -, ⟨c1, c2, c3⟩, -⟩ := h
  have m12 := hD.1
  have L : ∀ r c, c + r = 12 → qx d qc_Plan_causesGoodOn 4 [some (qR (5, p, 0)), some (qI (zI (i : Nat))), some (qI (zI (mk (fun c => S.testBit c && gB s m D c i) c : Nat))), some (qI (zI (c : Nat)))] [] μ = some (some (qI (zI (mk (fun c => S.testBit c && gB s m D c i) 12 : Nat))), μ) := by
    intro r
    induction r with
    | zero =>
      intro c hc
      rw [qb_Plan_causesGoodOn_4, zI_of, if_pos (by rw [zI_le (by omega)]; omega), qb_Plan_causesGoodOn_49, show c = 12 by omega]
    | succ r ih =>
      intro c hc
      have i1 := ih (c + 1) (by omega)
      have lt := p31 (mk_lt (fun c => S.testBit c && gB s m D c i) c) (by omega)
      have skip : (S.testBit c && gB s m D c i) = false → qx d qc_Plan_causesGoodOn 43 [some (qR (5, p, 0)), some (qI (zI (i : Nat))), some (qI (zI (mk (fun c => S.testBit c && gB s m D c i) c : Nat))), some (qI (zI (c : Nat)))] [] μ = some (some (qI (zI (mk (fun c => S.testBit c && gB s m D c i) 12 : Nat))), μ) := fun hb => by
        rw [mk_f hb] at i1
        rw [qb_Plan_causesGoodOn_43, zI_of, zI_add]
        exact i1
      rw [qb_Plan_causesGoodOn_4, c2]
      simp (disch := omega) only [zI_of, zI_0, zI_1, zI_add, zI_sub, zI_mul, zI_neg, zI_lt, zI_le, zI_eq, zI_rem, zI_oob, zI_ixN, zI_ix, zI_ite, zI10, zI01, Int.toNat_natCast, cond_false, cond_true, q01_0, q01_1, q01_0z, q01_1z, qB_if, qB_ifz, qB_ret, qB_retz, qbI_some, qbV_some, qbL_some, qbR_some, qbN_some, qbN_none, true_or, or_true, false_or, or_false, if_true, if_false, Int.reduceEq, Int.reduceLT, Int.reduceLE, Int.reduceNeg, zI_31, zI_bit, zI_and, tb_if]
      rw [if_neg (by omega)]
      cases hs : S.testBit c
      · rw [cond_false]
        exact skip (by rw [hs]; rfl)
      · obtain ⟨-, -, -, c4⟩ := c3 c hs
        have gl := p31 (mk_lt (fun i => aF s c (D i)) m) (by omega)
        rw [cond_true, c4, show gdB s m D c = mk (fun i => aF s c (D i)) m from rfl]
        simp (disch := omega) only [zI_of, zI_0, zI_1, zI_add, zI_sub, zI_mul, zI_neg, zI_lt, zI_le, zI_eq, zI_rem, zI_oob, zI_ixN, zI_ix, zI_ite, zI10, zI01, Int.toNat_natCast, cond_false, cond_true, q01_0, q01_1, q01_0z, q01_1z, qB_if, qB_ifz, qB_ret, qB_retz, qbI_some, qbV_some, qbL_some, qbR_some, qbN_some, qbN_none, true_or, or_true, false_or, or_false, if_true, if_false, Int.reduceEq, Int.reduceLT, Int.reduceLE, Int.reduceNeg, zI_31, zI_bit, zI_and, tb_if]
        cases hg : gB s m D c i
        · rw [show (mk (fun i => aF s c (D i)) m).testBit i = false from hg, cond_false]
          exact skip (by rw [hg, Bool.and_false])
        · rw [show (mk (fun i => aF s c (D i)) m).testBit i = true from hg, cond_true, qb_Plan_causesGoodOn_43]
          rw [mk_t (show (fun c => S.testBit c && gB s m D c i) c = true by dsimp only; rw [hs, hg]; rfl)] at i1
          simp (disch := omega) only [zI_of, zI_0, zI_1, zI_add, zI_sub, zI_mul, zI_neg, zI_lt, zI_le, zI_eq, zI_rem, zI_oob, zI_ixN, zI_ix, zI_ite, zI10, zI01, Int.toNat_natCast, cond_false, cond_true, q01_0, q01_1, q01_0z, q01_1z, qB_if, qB_ifz, qB_ret, qB_retz, qbI_some, qbV_some, qbL_some, qbR_some, qbN_some, qbN_none, true_or, or_true, false_or, or_false, if_true, if_false, Int.reduceEq, Int.reduceLT, Int.reduceLE, Int.reduceNeg, zI_or, mk_or]
          exact i1
  rw [qe_Plan_causesGoodOn (h0 := qd5 hp), qb_Plan_causesGoodOn_0, zI_of]
  exact L 12 0 (by decide)
theorem mk_orr (P R : Nat → Bool) (n : Nat) : mk P n ||| mk R n = mk (fun c => P c || R c) n := by
  apply Nat.eq_of_testBit_eq
  intro i
  rw [Nat.testBit_or, mk_bit, mk_bit, mk_bit]
  cases decide (i < n) <;> rfl
def PG (μ : QM) (p : Nat) (s : AS) (m S : Nat) (D : Nat → Nat) (f : Nat) : Prop := ∀ i, i < f → μ.1 (12, p, 0) i = zI (mk (fun c => S.testBit c && gB s m D c i) 12 : Nat)
theorem c_Plan_causesOfDays (d : Nat) {p m f S T : Nat} {D : Nat → Nat} {s : AS} {μ : QM} (hp : p < 2) (h : PG μ p s m S D f) (hf : f ≤ 8) (hT : T < 2 ^ f) : qcall qprogs (d + 1) 41 [qR (5, p, 0), qI (zI (T : Nat)), qI (zI (f : Nat))] μ = some (some (qI (zI (mk (fun c => anyB (fun i => T.testBit i && (S.testBit c && gB s m D c i)) 8) 12 : Nat))), μ) := by
  have T8 : T < 256 := Nat.lt_of_lt_of_le hT (show 2 ^ f ≤ 2 ^ 8 from Nat.pow_le_pow_right (by decide) hf)
  have out : ∀ i, f ≤ i → T.testBit i = false := fun i hi => Nat.testBit_lt_two_pow (Nat.lt_of_lt_of_le hT (Nat.pow_le_pow_right (by decide) hi))
  have L : ∀ r i, i + r = f → qx d qc_Plan_causesOfDays 5 [some (qR (5, p, 0)), some (qI (zI (T : Nat))), some (qI (zI (f : Nat))), some (qI (zI (mk (fun c => anyB (fun i => T.testBit i && (S.testBit c && gB s m D c i)) i) 12 : Nat))), some (qI (zI (i : Nat)))] [] μ = some (some (qI (zI (mk (fun c => anyB (fun i => T.testBit i && (S.testBit c && gB s m D c i)) f) 12 : Nat))), μ) := by
    intro r
    induction r with
    | zero =>
      intro i hi
      rw [qb_Plan_causesOfDays_5, if_pos (by rw [zI_le (by omega)]; omega), qb_Plan_causesOfDays_43, show i = f by omega]
    | succ r ih =>
      intro i hi
      have i1 := ih (i + 1) (by omega)
      have lt := p31 (mk_lt (fun c => anyB (fun i => T.testBit i && (S.testBit c && gB s m D c i)) i) 12) (by omega)
      rw [qb_Plan_causesOfDays_5]
      simp only [zI_of, zI_31]
      rw [if_neg (by rw [zI_le (by omega)]; omega), if_neg (by rw [zI_le (by omega)]; omega), zI_bit (c := i) (by omega), zI_and, zI_0, tb_if (by omega)]
      cases ht : T.testBit i
      · rw [cond_false, qb_Plan_causesOfDays_37, zI_of, zI_add]
        rw [mk_congr (q := fun c => anyB (fun i => T.testBit i && (S.testBit c && gB s m D c i)) i) 12 (fun c _ => by rw [anyB_s, ht, Bool.false_and, Bool.or_false])] at i1
        exact i1
      · rw [cond_true, zI_oob (n := 12) (by omega), cond_false, show qix (zI (i : Nat)) = i from zI_ixN (by omega), h i (by omega), zI_or, mk_orr, qb_Plan_causesOfDays_37, zI_of, zI_add]
        rw [mk_congr (q := fun c => anyB (fun i => T.testBit i && (S.testBit c && gB s m D c i)) i || (S.testBit c && gB s m D c i)) 12 (fun c _ => by rw [anyB_s, ht, Bool.true_and])] at i1
        exact i1
  have e : mk (fun c => anyB (fun i => T.testBit i && (S.testBit c && gB s m D c i)) 8) 12 = mk (fun c => anyB (fun i => T.testBit i && (S.testBit c && gB s m D c i)) f) 12 := mk_congr _ fun c _ => by
    have := anyB_cut (P := fun i => T.testBit i && (S.testBit c && gB s m D c i)) (N := f) (fun i hi => by rw [out i hi, Bool.false_and]) (8 - f)
    rw [show f + (8 - f) = 8 by omega] at this
    exact this
  rw [qe_Plan_causesOfDays (h0 := qd5 hp), qb_Plan_causesOfDays_0, e]
  simp only [zI_of]
  have := L f 0 (by omega)
  have e0 : mk (fun c => anyB (fun i => T.testBit i && (S.testBit c && gB s m D c i)) 0) 12 = 0 := (mk_congr (q := fun _ => false) 12 (fun c _ => rfl)).trans (by decide)
  rw [e0] at this
  exact this
/-- the smallest set with too few -/
def ltO (S : Nat) : Option Nat → Bool
  | none => true
  | some f => decide (cntB S.testBit 12 < cntB f.testBit 12)
def shd (s : AS) (w m : Nat) (D : Nat → Nat) (S : Nat) (o : Option Nat) : Option Nat := if ltO S o = true ∧ cntB (qn s w m D S) 12 < cntB S.testBit 12 then some S else o
def fewO (f : Nat) : Option Nat → Nat
  | none => f + 1
  | some S => cntB S.testBit 12
def oS (f : Nat) (o : Option Nat) : Prop := ∀ S, o = some S → S < 2 ^ f
theorem cnt_few {f S : Nat} (hS : S < 2 ^ f) (hf : f ≤ 8) : cntB S.testBit 12 ≤ f := by
  have e : cntB S.testBit 12 = cntB S.testBit f := by
    have := cntB_flat (P := S.testBit) (a := f) (12 - f) (fun i a _ => Nat.testBit_lt_two_pow (Nat.lt_of_lt_of_le hS (Nat.pow_le_pow_right (by decide) a)))
    rw [show f + (12 - f) = 12 by omega] at this
    exact this
  rw [e]
  exact cntB_le f
theorem c_Plan_shortDays (d : Nat) {p m w : Nat} {D : Nat → Nat} {s : AS} {Q : List Nat} {μ : QM} (hp : p < 2) (hn : aN s ≤ 12) (h : PP μ p s m D (unS s w) Q) :
    ∃ μ', qcall qprogs (d + 2) 40 [qR (5, p, 0)] μ = some (some (qI (zI (onM (fol (shd s w m D) 1 (2 ^ (min m 8) - 1) none)))), μ') ∧ Fr (isPl p) μ μ' ∧ PP μ' p s m D (unS s w) Q := by
  have m12 := h.1.1
  obtain ⟨f, hf⟩ : ∃ f, f = min m 8 := ⟨_, rfl⟩
  rw [← hf]
  have f8 : f ≤ 8 := by omega
  have p8 : 2 ^ f ≤ 256 := Nat.pow_le_pow_right (n := 2) (by decide) f8
  have p1 : 1 ≤ 2 ^ f := Nat.one_le_two_pow
  have frg : ∀ (i : Nat) (v : Int32) (μ1 : QM), PP μ1 p s m D (unS s w) Q → PP (qsi μ1 (12, p, 0) i v) p s m D (unS s w) Q ∧ Fr (isPl p) μ1 (qsi μ1 (12, p, 0) i v) := fun i v μ1 h1 => by
    obtain ⟨a1, a2, ⟨a3, a4, a5⟩, a6, a7⟩ := h1
    refine ⟨⟨a1.congr (by rw [qsi_ne (by simp)]) (qsi_ne (by simp)), a2.congr (fun c => by rw [qsi_ne (by simp)]), ⟨a3, by rw [qsi_ne (by simp)]; exact a4, fun c hc => by rw [qsi_ne (by simp)]; exact a5 c hc⟩, a6.congr (by rw [qsi_ne (by simp)]) rfl, a7⟩, Fr.si (isPl_of (by decide))⟩
  have L1 : ∀ r i (μ1 : QM), i + r = f → PP μ1 p s m D (unS s w) Q → Fr (isPl p) μ μ1 → PG μ1 p s m (unS s w) D i → ∃ μ2, qx (d + 1) qc_Plan_shortDays 12 [some (qR (5, p, 0)), some (qI (zI (f : Nat))), some (qI (zI (i : Nat))), none, none, none] [] μ1 = qx (d + 1) qc_Plan_shortDays 40 [some (qR (5, p, 0)), some (qI (zI (f : Nat))), none, none, none, none] [] μ2 ∧ PP μ2 p s m D (unS s w) Q ∧ Fr (isPl p) μ μ2 ∧ PG μ2 p s m (unS s w) D f := by
    intro r
    induction r with
    | zero =>
      intro i μ1 hi hP fr hG
      rw [qb_Plan_shortDays_12, if_pos (by rw [zI_le (by omega)]; omega)]
      rw [show i = f by omega] at hG
      exact ⟨μ1, rfl, hP, fr, hG⟩
    | succ r ih =>
      intro i μ1 hi hP fr hG
      have g := frg i (zI (mk (fun c => (unS s w).testBit c && gB s m D c i) 12 : Nat)) μ1 hP
      rw [qb_Plan_shortDays_12]
      simp only [zI_of, zI_add]
      rw [if_neg (by rw [zI_le (by omega)]; omega), if_neg (by rw [zI_le (by omega)]; omega), c_Plan_causesGoodOn d hp hP (by omega), qbI_some, zI_oob (n := 12) (by omega), cond_false, show qix (zI (i : Nat)) = i from zI_ixN (by omega)]
      refine ih (i + 1) _ (by omega) g.1 (fr.tr g.2) fun j hj => ?_
      rw [qsi_get]
      by_cases e : j = i
      · subst e; rw [if_pos ⟨rfl, rfl⟩]
      · rw [if_neg (fun z => e z.2)]; exact hG j (by omega)
  have L2 : ∀ r S o (μ1 : QM), S + r = 2 ^ f → PG μ1 p s m (unS s w) D f → oS f o → qx (d + 1) qc_Plan_shortDays 50 [some (qR (5, p, 0)), some (qI (zI (f : Nat))), some (qI (zI (fewO f o : Nat))), some (qI (zI (onM o))), some (qI (zI (S : Nat))), none] [] μ1 = some (some (qI (zI (onM (fol (shd s w m D) S r o)))), μ1) := by
    intro r
    induction r with
    | zero =>
      intro S o μ1 hS hG ho
      rw [qb_Plan_shortDays_50]
      simp only [zI_of, zI_31]
      rw [zI_bit (c := f) (by omega), if_pos (by rw [zI_le (by omega)]; omega), qb_Plan_shortDays_98]
      rfl
    | succ r ih =>
      intro S o μ1 hS hG ho
      have hS2 : S < 2 ^ f := by omega
      have cS := cnt_few hS2 f8
      have ct : cntB (qn s w m D S) 12 ≤ 12 := cntB_le 12
      have fo : fewO f o ≤ 9 := by
        cases o with
        | none => show f + 1 ≤ 9; omega
        | some T => have := cnt_few (ho T rfl) f8; show cntB T.testBit 12 ≤ 9; omega
      have em : cntB (mk (qn s w m D S) 12).testBit 12 = cntB (qn s w m D S) 12 := cntB_congr 12 fun i hi => by rw [mk_bit, decide_eq_true hi, Bool.true_and]
      have ml := mk_lt (qn s w m D S) 12
      have hq : ltO S o = decide (cntB S.testBit 12 < fewO f o) := by
        cases o with
        | none => exact (decide_eq_true (show cntB S.testBit 12 < f + 1 by omega)).symm
        | some T => rfl
      have cod : qcall qprogs (d + 1) 41 [qR (5, p, 0), qI (zI (S : Nat)), qI (zI (f : Nat))] μ1 = some (some (qI (zI (mk (qn s w m D S) 12 : Nat))), μ1) := c_Plan_causesOfDays d hp hG f8 hS2
      have go : ∀ o', oS f o' → shd s w m D S o = o' → qx (d + 1) qc_Plan_shortDays 92 [some (qR (5, p, 0)), some (qI (zI (f : Nat))), some (qI (zI (fewO f o' : Nat))), some (qI (zI (onM o'))), some (qI (zI (S : Nat))), none] [] μ1 = some (some (qI (zI (onM (fol (shd s w m D) S (r + 1) o)))), μ1) := fun o' h1 h2 => by
        rw [fol_s, h2, qb_Plan_shortDays_92, zI_of, zI_add]
        exact ih (S + 1) o' μ1 (by omega) hG h1
      rw [qb_Plan_shortDays_50]
      simp only [zI_of, zI_31]
      rw [zI_bit (c := f) (by omega), if_neg (by rw [zI_le (by omega)]; omega), c_bitCount d (by omega), qbI_some]
      unfold shd at go
      rw [hq] at go
      by_cases e1 : cntB S.testBit 12 < fewO f o
      · rw [if_neg (by rw [zI_le (by omega)]; omega), cod, qbI_some, c_bitCount d (by omega), em, qbI_some]
        by_cases e2 : cntB (qn s w m D S) 12 < cntB S.testBit 12
        · rw [if_neg (by rw [zI_le (by omega)]; omega)]
          exact go (some S) (fun T hT => by cases hT; exact hS2) (if_pos ⟨decide_eq_true e1, e2⟩)
        · rw [if_pos (by rw [zI_le (by omega)]; omega)]
          exact go o ho (if_neg (fun z => e2 z.2))
      · rw [if_pos (by rw [zI_le (by omega)]; omega)]
        exact go o ho (if_neg (fun z => e1 (by simpa using z.1)))
  obtain ⟨μ1, x1, x2, x3, x4⟩ := L1 f 0 μ (by omega) h Fr.rf (fun i hi => absurd hi (by omega))
  refine ⟨μ1, ?_, x3, x2⟩
  have y := L2 (2 ^ f - 1) 1 none μ1 (by omega) x4 (fun T hT => by cases hT)
  rw [qe_Plan_shortDays (h0 := qd5 hp), qb_Plan_shortDays_0, h.1.2.1]
  simp only [zI_of]
  have em : (if zI 8 < zI (m : Nat) then zI 8 else zI (m : Nat)) = zI (f : Nat) := by
    by_cases q : 8 < m
    · rw [if_pos (by rw [zI_lt (by omega)]; omega)]; exact zI_congr (by omega)
    · rw [if_neg (by rw [zI_lt (by omega)]; omega)]; exact zI_congr (by omega)
  rw [em]
  refine Eq.trans x1 ?_
  rw [qb_Plan_shortDays_40]
  simp only [zI_of, zI_add]
  exact y
theorem c_M_goodFor (d : Nat) {w m S f : Nat} {D : Nat → Nat} {s : AS} {μ : QM} (h : RM μ s) (ok : aOK s) (hw : w < 2) (hP : PDm μ m D) (hwd : ∀ i, i < m → D i % 7 = aP s w 0) (hf : f ≤ m) (hf8 : f ≤ 8) (hS : S < 2 ^ f) :
    qcall qprogs (d + 4) 206 [qR (24, 0, 0), qI (zI (w : Nat)), qI (zI (S : Nat))] μ = some (some (qI (zI (cntB (qn s w m D S) 12 : Nat))), μ) := by
  have n12 := ok.2.1
  have S8 : S < 256 := Nat.lt_of_lt_of_le hS (show 2 ^ f ≤ 2 ^ 8 from Nat.pow_le_pow_right (by decide) hf8)
  have out : ∀ i, f ≤ i → S.testBit i = false := fun i hi => Nat.testBit_lt_two_pow (Nat.lt_of_lt_of_le hS (Nat.pow_le_pow_right (by decide) hi))
  have L2 : ∀ r k c (v : Nat), k + r = 8 → c < aN s → qx (d + 3) qc_M_goodFor 20 [some (qR (24, 0, 0)), some (qI (zI (w : Nat))), some (qI (zI (S : Nat))), some (qI (zI (v : Nat))), some (qI (zI (c : Nat))), some (qI (qB (anyB (fun i => S.testBit i && ((unS s w).testBit c && gB s m D c i)) k))), some (qI (zI (k : Nat)))] [] μ = qx (d + 3) qc_M_goodFor 89 [some (qR (24, 0, 0)), some (qI (zI (w : Nat))), some (qI (zI (S : Nat))), some (qI (zI (v : Nat))), some (qI (zI (c : Nat))), some (qI (qB (qn s w m D S c))), none] [] μ := by
    intro r
    induction r with
    | zero =>
      intro k c v hk hc
      rw [qb_M_goodFor_20, zI_of, if_pos (by rw [zI_le (by omega)]; omega), show k = 8 by omega]
      rfl
    | succ r ih =>
      intro k c v hk hc
      obtain ⟨-, -, b2, -, b4⟩ := ok.c hc
      have i1 := ih (k + 1) c v (by omega) hc
      have ub : (unS s w).testBit c = (aX s c && decide (aC s c 2 = w)) := un_bit hc
      rw [anyB_s] at i1
      have z80 : ∀ b : Bool, (S.testBit k && ((unS s w).testBit c && gB s m D c k)) = b → qx (d + 3) qc_M_goodFor 80 [some (qR (24, 0, 0)), some (qI (zI (w : Nat))), some (qI (zI (S : Nat))), some (qI (zI (v : Nat))), some (qI (zI (c : Nat))), none, some (qI (zI (k : Nat)))] [qI (qB b), qI (qB (anyB (fun i => S.testBit i && ((unS s w).testBit c && gB s m D c i)) k))] μ = qx (d + 3) qc_M_goodFor 89 [some (qR (24, 0, 0)), some (qI (zI (w : Nat))), some (qI (zI (S : Nat))), some (qI (zI (v : Nat))), some (qI (zI (c : Nat))), some (qI (qB (qn s w m D S c))), none] [] μ := fun b hb => by
        rw [hb] at i1
        rw [qb_M_goodFor_80, qB_or, zI_of, zI_add]
        exact i1
      have z79 : (S.testBit k && ((unS s w).testBit c && gB s m D c k)) = false → qx (d + 3) qc_M_goodFor 79 [some (qR (24, 0, 0)), some (qI (zI (w : Nat))), some (qI (zI (S : Nat))), some (qI (zI (v : Nat))), some (qI (zI (c : Nat))), none, some (qI (zI (k : Nat)))] [qI (qB (anyB (fun i => S.testBit i && ((unS s w).testBit c && gB s m D c i)) k))] μ = qx (d + 3) qc_M_goodFor 89 [some (qR (24, 0, 0)), some (qI (zI (w : Nat))), some (qI (zI (S : Nat))), some (qI (zI (v : Nat))), some (qI (zI (c : Nat))), some (qI (qB (qn s w m D S c))), none] [] μ := fun hb => by
        rw [qb_M_goodFor_79]
        exact z80 false hb
      rw [qb_M_goodFor_20, if_neg (by rw [zI_of, zI_le (by omega)]; omega), c_M_has (d + 2) (by omega) (by omega), qbI_some, qB_if]
      cases hk1 : S.testBit k
      · rw [cond_false]
        exact z79 (by rw [hk1]; rfl)
      · have hkf : k < f := by
          by_cases q : k < f
          · exact q
          · rw [out k (by omega)] at hk1; cases hk1
        have hkm : k < m := by omega
        obtain ⟨pd1, pd2⟩ := hP.2.2 k hkm
        have gk : gB s m D c k = aF s c (D k) := by unfold gB gdB; rw [mk_bit, decide_eq_true hkm, Bool.true_and]
        rw [cond_true, zI_oob (n := 12) (by omega), cond_false, cond_false, show qix (zI (c : Nat)) = c from zI_ixN (by omega), h.wh hc]
        by_cases q : aC s c 2 = w
        · rw [if_pos (by rw [q]), h.us hc]
          by_cases q2 : aC s c 4 = 0
          · have ux : (unS s w).testBit c = true := by rw [ub]; simp [aX, q, q2]
            rw [if_pos (by rw [q2]; exact zI0), zI_oob (n := 12) (by omega), cond_false, show qix (zI (k : Nat)) = k from zI_ixN (by omega), pd2, c_M_isGood d h ok hc pd1, qbI_some, aG_wd q (hwd k hkm), qB_if]
            cases hg : aF s c (D k)
            · rw [cond_false]
              exact z79 (by rw [gk, hg, Bool.and_false, Bool.and_false])
            · rw [cond_true]
              exact z80 true (by rw [gk, hg, ux, hk1]; rfl)
          · rw [if_neg (by rw [zI_0, zI_eq (by omega)]; omega)]
            exact z79 (by rw [ub]; simp [aX, q2])
        · rw [if_neg (by rw [zI_eq (by omega)]; omega)]
          exact z79 (by rw [ub]; simp [q])
  have L : ∀ r c, c + r = aN s → qx (d + 3) qc_M_goodFor 5 [some (qR (24, 0, 0)), some (qI (zI (w : Nat))), some (qI (zI (S : Nat))), some (qI (zI (cntB (qn s w m D S) c : Nat))), some (qI (zI (c : Nat))), none, none] [] μ = some (some (qI (zI (cntB (qn s w m D S) (aN s) : Nat))), μ) := by
    intro r
    induction r with
    | zero =>
      intro c hc
      rw [qb_M_goodFor_5, h.cnt, if_pos (by rw [zI_le (by omega)]; omega), qb_M_goodFor_108, show c = aN s by omega]
    | succ r ih =>
      intro c hc
      have i1 := ih (c + 1) (by omega)
      have i2 := L2 8 0 c (cntB (qn s w m D S) c) (by decide) (by omega)
      rw [cntB_s] at i1
      rw [qb_M_goodFor_5, h.cnt, if_neg (by rw [zI_le (by omega)]; omega)]
      simp only [zI_of]
      refine Eq.trans i2 ?_
      rw [qb_M_goodFor_89, qB_if]
      cases hq : qn s w m D S c
      · rw [hq, if_neg (show ¬ false = true by decide)] at i1
        rw [cond_false, qb_M_goodFor_99, qb_M_goodFor_100, zI_of, zI_of, zI_add, zI_add, Int.add_zero]
        exact i1
      · rw [hq, if_pos rfl] at i1
        rw [cond_true, qb_M_goodFor_100, zI_of, zI_add, zI_add]
        exact i1
  have e : cntB (qn s w m D S) 12 = cntB (qn s w m D S) (aN s) := by
    have := cntB_flat (P := qn s w m D S) (a := aN s) (12 - aN s) (fun i a _ => by
      unfold qn
      have : ∀ k, anyB (fun j => S.testBit j && ((unS s w).testBit i && gB s m D i j)) k = false := fun k => by
        induction k with
        | zero => rfl
        | succ k ih =>
          have u : (unS s w).testBit i = false := by
            cases hu : (unS s w).testBit i
            · rfl
            · have := unS_n hu; omega
          rw [anyB_s, ih, u, Bool.false_and, Bool.and_false]; rfl
      exact this 8)
    rw [show aN s + (12 - aN s) = 12 by omega] at this
    exact this
  rw [qe_M_goodFor, qb_M_goodFor_0, e]
  simp only [zI_of]
  exact L (aN s) 0 (by omega)
theorem op_notAll {σ : GS} (ok : GOK σ) {z1 z2 : Int} (h1 : iB z1) (h2 : iB z2) : OP 80 207 [qI (zI z1), qI (zI z2)] σ := by
  have hr := fOne_r (z := z1) (fDay_r (gS σ) z2)
  have n12 := ok.1.2.1
  by_cases hf : fOne z1 (fDay (gS σ) z2) = 0
  · have hf0 := hf
    obtain ⟨⟨w, rfl, hw⟩, hd⟩ := fOne_0 hf
    obtain ⟨n, rfl, hn, hn2⟩ := fDay_0 hd
    refine ⟨qI (zI (onM (fol (shd (gS σ) w (nM (gS σ) w (aP (gS σ) w 0) n) (nD (gS σ) w (aP (gS σ) w 0))) 1 (2 ^ (min (nM (gS σ) w (aP (gS σ) w 0) n) 8) - 1) none))), σ, fun d μ h => ?_, fun d μ h => ?_, ok⟩
    · obtain ⟨μ1, Q, r1, r2, r3, r4⟩ := j_prep (d + 24) h ok hw hn hn2
      obtain ⟨μ2, q1, q2, q3⟩ := c_Plan_shortDays (d + 27) hw n12 r4
      have ci := r2.pp q2 q3
      refine ⟨μ2, ?_, ci.1, r3.tr ci.2⟩
      rw [qe_J_notAll, qb_J_notAll_0, c_J_faultOfOneAndDay (d + 27) h.1.1 ok.1 h1 h2, qbI_some, hf, if_pos zI0, qb_J_notAll_17, r1, qbR_some (qd5 hw), q1, qbI_some]
    · obtain ⟨μ1, r1, r2, r3⟩ := c_M_findNeeds (d + 28) h.1 ok.1 hw hn hn2
      have hwd : ∀ i, i < nM (gS σ) w (aP (gS σ) w 0) n → nD (gS σ) w (aP (gS σ) w 0) i % 7 = aP (gS σ) w 0 := fun i _ => nD_wd (ok.1.p hw).1
      have m12 := nM_le ok.1 (w := w) (wd := aP (gS σ) w 0) hn2
      have hR := h.1.q r2
      generalize nM (gS σ) w (aP (gS σ) w 0) n = m at *
      generalize nD (gS σ) w (aP (gS σ) w 0) = D at *
      obtain ⟨f, hf9⟩ : ∃ f, f = min m 8 := ⟨_, rfl⟩
      rw [← hf9]
      have f8 : f ≤ 8 := by omega
      have p8 : 2 ^ f ≤ 256 := Nat.pow_le_pow_right (n := 2) (by decide) f8
      have p1 : 1 ≤ 2 ^ f := Nat.one_le_two_pow
      have L2 : ∀ r S o, S + r = 2 ^ f → oS f o → qx (d + 29) qc_M_notAll 41 [some (qR (24, 0, 0)), some (qI (zI (w : Nat))), none, none, some (qI (zI (f : Nat))), some (qI (zI (onM o))), some (qI (zI (S : Nat)))] [] μ1 = some (some (qI (zI (onM (fol (shd (gS σ) w m D) S r o)))), μ1) := by
        intro r
        induction r with
        | zero =>
          intro S o hS ho
          rw [qb_M_notAll_41]
          simp only [zI_of, zI_31]
          rw [zI_bit (c := f) (by omega), if_pos (by rw [zI_le (by omega)]; omega), qb_M_notAll_93]
          rfl
        | succ r ih =>
          intro S o hS ho
          have hS2 : S < 2 ^ f := by omega
          have cS := cnt_few hS2 f8
          have ct : cntB (qn (gS σ) w m D S) 12 ≤ 12 := cntB_le 12
          have go : ∀ o', oS f o' → shd (gS σ) w m D S o = o' → qx (d + 29) qc_M_notAll 87 [some (qR (24, 0, 0)), some (qI (zI (w : Nat))), none, none, some (qI (zI (f : Nat))), some (qI (zI (onM o'))), some (qI (zI (S : Nat)))] [] μ1 = some (some (qI (zI (onM (fol (shd (gS σ) w m D) S (r + 1) o)))), μ1) := fun o' h1 h2 => by
            rw [fol_s, h2, qb_M_notAll_87, zI_of, zI_add]
            exact ih (S + 1) o' (by omega) h1
          have g68 : ltO S o = true → qx (d + 29) qc_M_notAll 68 [some (qR (24, 0, 0)), some (qI (zI (w : Nat))), none, none, some (qI (zI (f : Nat))), some (qI (zI (onM o))), some (qI (zI (S : Nat)))] [] μ1 = some (some (qI (zI (onM (fol (shd (gS σ) w m D) S (r + 1) o)))), μ1) := fun e1 => by
            rw [qb_M_notAll_68, c_M_goodFor (d + 25) hR ok.1 hw r3 hwd (show f ≤ m by omega) f8 hS2, qbI_some, c_M_bits (d + 28) (by omega), qbI_some]
            by_cases e2 : cntB (qn (gS σ) w m D S) 12 < cntB S.testBit 12
            · rw [if_neg (by rw [zI_le (by omega)]; omega)]
              exact go (some S) (fun T hT => by cases hT; exact hS2) (if_pos ⟨e1, e2⟩)
            · rw [if_pos (by rw [zI_le (by omega)]; omega)]
              exact go o ho (if_neg (fun z => e2 z.2))
          rw [qb_M_notAll_41]
          simp only [zI_of, zI_31]
          rw [zI_bit (c := f) (by omega), if_neg (by rw [zI_le (by omega)]; omega)]
          cases o with
          | none =>
            rw [if_pos (by decide +kernel)]
            exact g68 rfl
          | some T =>
            have hT := ho T rfl
            have cT := cnt_few hT f8
            rw [show onM (some T) = (T : Nat) from rfl] at *
            rw [if_neg (by rw [zI_0, zI_lt (by omega)]; omega), c_M_bits (d + 28) (by omega), qbI_some, c_M_bits (d + 28) (by omega), qbI_some]
            by_cases e1 : cntB S.testBit 12 < cntB T.testBit 12
            · rw [if_neg (by rw [zI_le (by omega)]; omega)]
              exact g68 (decide_eq_true e1)
            · rw [if_pos (by rw [zI_le (by omega)]; omega)]
              exact go (some T) ho (if_neg (fun z => e1 (of_decide_eq_true z.1)))
      have y := L2 (2 ^ f - 1) 1 none (by omega) (fun T hT => by cases hT)
      refine ⟨μ1, ?_, h.q ok r2, r2.r.md⟩
      rw [qe_M_notAll, qb_M_notAll_0, c_M_notWho (d + 27) h.1 ok.1 h1 h2, qbI_some, hf, if_pos zI0, qb_M_notAll_17, r1, qbV_some, r3.2.1]
      simp only [zI_of]
      rw [c_M_lesser (d + 28) (by omega), qbI_some, show min ((m : Nat) : Int) 8 = ((f : Nat) : Int) by omega]
      exact y
  ·
    have hr2 : -6 ≤ fOne z1 (fDay (gS σ) z2) ∧ fOne z1 (fDay (gS σ) z2) ≤ -1 := by omega
    refine ⟨qI (zI (fOne z1 (fDay (gS σ) z2))), refS σ (-(fOne z1 (fDay (gS σ) z2))).toNat, fun d μ h => ?_, fun d μ h => ?_, ok.ref⟩
    · rw [qe_J_notAll, qb_J_notAll_0, c_J_faultOfOneAndDay (d + 27) h.1.1 ok.1 h1 h2, qbI_some, if_neg (zI_n0 hr2)]
      obtain ⟨μ9, r1, r2, r3⟩ := c_J_refuse (d + 28) h hr2
      exact ⟨μ9, by simp only [r1, qbI_some], r2, r3⟩
    · rw [qe_M_notAll, qb_M_notAll_0, c_M_notWho (d + 27) h.1 ok.1 h1 h2, qbI_some, if_neg (zI_n0 hr2)]
      obtain ⟨μ9, r1, r2, r3⟩ := c_M_no (d + 28) h hr2
      exact ⟨μ9, by simp only [r1, qbI_some], r2, r3⟩
end
