section
/-! laws, friends, chances -/
def mxr (R : Nat → Nat) : Nat → Int
  | 0 => -1
  | n + 1 => if mxr R n < (R n : Int) then (R n : Int) else mxr R n
def alle (R : Nat → Nat) (m : Nat) : Nat → Bool
  | 0 => true
  | n + 1 => alle R m n && decide (R n ≤ m)
theorem mxr_b {R : Nat → Nat} {M : Nat} : ∀ n, (∀ i, i < n → R i ≤ M) → -1 ≤ mxr R n ∧ mxr R n ≤ M
  | 0, _ => by show -1 ≤ (-1 : Int) ∧ (-1 : Int) ≤ M; omega
  | n + 1, h => by
    have h1 := mxr_b n (fun i hi => h i (by omega))
    have h2 := h n (by omega)
    show -1 ≤ (if mxr R n < (R n : Int) then (R n : Int) else mxr R n) ∧ (if mxr R n < (R n : Int) then (R n : Int) else mxr R n) ≤ M
    split <;> omega
theorem mxr_le {R : Nat → Nat} {m : Nat} : ∀ n, mxr R n ≤ m ↔ alle R m n = true
  | 0 => by show (-1 : Int) ≤ m ↔ true = true; simp
  | n + 1 => by
    have h1 := mxr_le (R := R) (m := m) n
    show (if mxr R n < (R n : Int) then (R n : Int) else mxr R n) ≤ m ↔ (alle R m n && decide (R n ≤ m)) = true
    rw [Bool.and_eq_true, ← h1, decide_eq_true_iff]
    split <;> omega
theorem alle_up {R : Nat → Nat} {m i : Nat} (h : alle R m i = false) : ∀ k, alle R m (i + k) = false
  | 0 => h
  | k + 1 => by show (alle R m (i + k) && _) = false; rw [alle_up h k]; rfl
theorem alle_at {R : Nat → Nat} {m : Nat} : ∀ n, alle R m n = true → ∀ i, i < n → R i ≤ m
  | 0, _, i, h => absurd h (by omega)
  | n + 1, ht, i, h => by
    have ht : (alle R m n && decide (R n ≤ m)) = true := ht
    rw [Bool.and_eq_true, decide_eq_true_iff] at ht
    by_cases e : i = n
    · rw [e]; exact ht.2
    · exact alle_at n ht.1 i (by omega)
theorem c_J_mostInRow (d : Nat) {μ : QM} {σ : GS} (h : CI μ σ) (ok : GOK σ) : qcall qprogs (d + 2) 141 [qR (0, 0, 0)] μ = some (some (qI (zI (mxr (gR σ) (gK σ)))), μ) := by
  have k12 := ok.2.2.2.2.2.2.1
  have r99 := ok.2.2.2.2.2.2.2
  have L : ∀ r i, i + r = gK σ → qx (d + 1) qc_J_mostInRow 4 [some (qR (0, 0, 0)), some (qI (zI (mxr (gR σ) i))), some (qI (zI (i : Nat)))] [] μ = some (some (qI (zI (mxr (gR σ) (gK σ)))), μ) := by
    intro r
    induction r with
    | zero =>
      intro i hi
      rw [qb_J_mostInRow_4, h.1.2.2.2.2.1.1, if_pos (by rw [zI_le (by omega)]; omega), qb_J_mostInRow_28, show i = gK σ by omega]
    | succ r ih =>
      intro i hi
      have i1 := ih (i + 1) (by omega)
      have b := mxr_b (R := gR σ) (M := 99) i (fun j hj => r99 j (by omega))
      have b2 := r99 i (by omega)
      rw [qb_J_mostInRow_4, h.1.2.2.2.2.1.1, if_neg (by rw [zI_le (by omega)]; omega), c_J_numberAt d h ok (by omega), qbI_some, zI_of, zI_add]
      have e : (if zI (mxr (gR σ) i) < zI (gR σ i : Nat) then zI (gR σ i : Nat) else zI (mxr (gR σ) i)) = zI (mxr (gR σ) (i + 1)) := by
        show _ = zI (if mxr (gR σ) i < (gR σ i : Int) then (gR σ i : Int) else mxr (gR σ) i)
        by_cases q : mxr (gR σ) i < (gR σ i : Int)
        · rw [if_pos (by rw [zI_lt (by omega)]; exact q), if_pos q]
        · rw [if_neg (by rw [zI_lt (by omega)]; exact q), if_neg q]
      rw [e]
      exact i1
  rw [qe_J_mostInRow, qb_J_mostInRow_0]
  simp only [zI_of]
  exact L (gK σ) 0 (by omega)
theorem c_M_areUpTo (d : Nat) {m : Nat} {μ : QM} {σ : GS} (h : MI μ σ) (ok : GOK σ) (hm : m ≤ 1000) : qcall qprogs (d + 1) 223 [qR (24, 0, 0), qI (zI (m : Nat))] μ = some (some (qI (qB (alle (gR σ) m (gK σ)))), μ) := by
  have k12 := ok.2.2.2.2.2.2.1
  have r99 := ok.2.2.2.2.2.2.2
  have L : ∀ r i, i + r = gK σ → alle (gR σ) m i = true → qx d qc_M_areUpTo 2 [some (qR (24, 0, 0)), some (qI (zI (m : Nat))), some (qI (zI (i : Nat)))] [] μ = some (some (qI (qB (alle (gR σ) m (gK σ)))), μ) := by
    intro r
    induction r with
    | zero =>
      intro i hi ht
      rw [qb_M_areUpTo_2, h.2.2.2.2.1.1, if_pos (by rw [zI_le (by omega)]; omega), qb_M_areUpTo_28, zI_of, if_pos (Or.inr (by decide +kernel)), show gK σ = i by omega, ht]
      rfl
    | succ r ih =>
      intro i hi ht
      have b2 := r99 i (by omega)
      rw [qb_M_areUpTo_2, h.2.2.2.2.1.1, if_neg (by rw [zI_le (by omega)]; omega), zI_oob (n := 12) (by omega), cond_false, show qix (zI (i : Nat)) = i from zI_ixN (by omega), h.2.2.2.2.1.2 i (by omega)]
      by_cases q : gR σ i ≤ m
      · rw [if_pos (by rw [zI_le (by omega)]; omega), qb_M_areUpTo_22, zI_of, zI_add]
        exact ih (i + 1) (by omega) (by show (alle (gR σ) m i && decide (gR σ i ≤ m)) = true; rw [ht, decide_eq_true q]; rfl)
      · have e : alle (gR σ) m (i + 1) = false := by show (alle (gR σ) m i && decide (gR σ i ≤ m)) = false; rw [decide_eq_false q, Bool.and_false]
        have := alle_up e r
        rw [if_neg (by rw [zI_le (by omega)]; omega), zI_of, if_pos (Or.inl (by decide +kernel)), show gK σ = i + 1 + r by omega, this]
        rfl
  rw [qe_M_areUpTo, qb_M_areUpTo_0, zI_of]
  exact L (gK σ) 0 (by omega) rfl
/-- a row by a law -/
def lwb (R : Nat → Nat) (k s : Nat) : Nat → Bool
  | 0 => true
  | n + 1 => lwb R k s n && decide (R n % k = s)
theorem lwb_up {R : Nat → Nat} {k s i : Nat} (h : lwb R k s i = false) : ∀ j, lwb R k s (i + j) = false
  | 0 => h
  | j + 1 => by show (lwb R k s (i + j) && _) = false; rw [lwb_up h j]; rfl
theorem c_J_isRowByLaw (d : Nat) {k s : Nat} {μ : QM} {σ : GS} (h : CI μ σ) (ok : GOK σ) (hk : 1 ≤ k ∧ k ≤ 20) (hs : s < k) : qcall qprogs (d + 2) 144 [qR (0, 0, 0), qI (zI (k : Nat)), qI (zI (s : Nat))] μ = some (some (qI (qB (lwb (gR σ) k s (gK σ)))), μ) := by
  have k12 := ok.2.2.2.2.2.2.1
  have r99 := ok.2.2.2.2.2.2.2
  have L : ∀ r i, i + r = gK σ → lwb (gR σ) k s i = true → qx (d + 1) qc_J_isRowByLaw 2 [some (qR (0, 0, 0)), some (qI (zI (k : Nat))), some (qI (zI (s : Nat))), some (qI (zI (i : Nat))), none] [] μ = some (some (qI (qB (lwb (gR σ) k s (gK σ)))), μ) := by
    intro r
    induction r with
    | zero =>
      intro i hi ht
      rw [qb_J_isRowByLaw_2, h.1.2.2.2.2.1.1, if_pos (by rw [zI_le (by omega)]; omega), qb_J_isRowByLaw_44, zI_of, if_pos (Or.inr (by decide +kernel)), show gK σ = i by omega, ht]
      rfl
    | succ r ih =>
      intro i hi ht
      have b2 := r99 i (by omega)
      have out : ¬ gR σ i % k = s → qx (d + 1) qc_J_isRowByLaw 36 [none, none, none, none, none] [] μ = some (some (qI (qB (lwb (gR σ) k s (gK σ)))), μ) := fun q => by
        have e : lwb (gR σ) k s (i + 1) = false := by show (lwb (gR σ) k s i && decide (gR σ i % k = s)) = false; rw [decide_eq_false q, Bool.and_false]
        have := lwb_up e r
        rw [qb_J_isRowByLaw_36, zI_of, if_pos (Or.inl (by decide +kernel)), show gK σ = i + 1 + r by omega, this]
        rfl
      rw [qb_J_isRowByLaw_2, h.1.2.2.2.2.1.1, if_neg (by rw [zI_le (by omega)]; omega), c_J_numberAt d h ok (by omega), qbI_some, zI_of, if_neg (by rw [zI_lt (by omega)]; omega), zI_sub]
      by_cases q : gR σ i < s
      · rw [if_pos (by rw [zI_0, zI_lt (by omega)]; omega)]
        exact out (by rw [Nat.mod_eq_of_lt (by omega)]; omega)
      · rw [if_neg (by rw [zI_0, zI_lt (by omega)]; omega), if_neg (by rw [zI_0, zI_eq (by omega)]; omega), zI_rem (by omega), show ((gR σ i : Nat) : Int) - (s : Nat) = ((gR σ i - s : Nat) : Int) by omega, show ((gR σ i - s : Nat) : Int) % (k : Nat) = (((gR σ i - s) % k : Nat) : Int) from rfl]
        have ml := Nat.mod_lt (gR σ i - s) (show 0 < k by omega)
        have eq : (gR σ i - s) % k = 0 ↔ gR σ i % k = s := by
          constructor
          · intro e
            have : gR σ i = s + (gR σ i - s) := by omega
            rw [this, Nat.add_mod, e, Nat.add_zero, Nat.mod_mod, Nat.mod_eq_of_lt hs]
          · intro e
            exact Nat.sub_mod_eq_zero_of_mod_eq (by rw [e, Nat.mod_eq_of_lt hs])
        by_cases q2 : gR σ i % k = s
        · rw [if_pos (by rw [zI_0, zI_eq (by omega)]; have := eq.mpr q2; omega), qb_J_isRowByLaw_38, zI_of, zI_add]
          exact ih (i + 1) (by omega) (by show (lwb (gR σ) k s i && decide (gR σ i % k = s)) = true; rw [ht, decide_eq_true q2]; rfl)
        · rw [if_neg (by rw [zI_0, zI_eq (by omega)]; intro z; exact q2 (eq.mp (by omega)))]
          exact out q2
  rw [qe_J_isRowByLaw, qb_J_isRowByLaw_0, zI_of]
  exact L (gK σ) 0 (by omega) rfl
theorem c_M_isLaw (d : Nat) {k s : Nat} {μ : QM} {σ : GS} (h : MI μ σ) (ok : GOK σ) (hk : 1 ≤ k ∧ k ≤ 20) (hs : s < k) : qcall qprogs (d + 1) 224 [qR (24, 0, 0), qI (zI (k : Nat)), qI (zI (s : Nat))] μ = some (some (qI (qB (lwb (gR σ) k s (gK σ)))), μ) := by
  have k12 := ok.2.2.2.2.2.2.1
  have r99 := ok.2.2.2.2.2.2.2
  have L : ∀ r i, i + r = gK σ → lwb (gR σ) k s i = true → qx d qc_M_isLaw 2 [some (qR (24, 0, 0)), some (qI (zI (k : Nat))), some (qI (zI (s : Nat))), some (qI (zI (i : Nat)))] [] μ = some (some (qI (qB (lwb (gR σ) k s (gK σ)))), μ) := by
    intro r
    induction r with
    | zero =>
      intro i hi ht
      rw [qb_M_isLaw_2, h.2.2.2.2.1.1, if_pos (by rw [zI_le (by omega)]; omega), qb_M_isLaw_30, zI_of, if_pos (Or.inr (by decide +kernel)), show gK σ = i by omega, ht]
      rfl
    | succ r ih =>
      intro i hi ht
      have b2 := r99 i (by omega)
      have ml := Nat.mod_lt (gR σ i) (show 0 < k by omega)
      rw [qb_M_isLaw_2, h.2.2.2.2.1.1, if_neg (by rw [zI_le (by omega)]; omega), zI_oob (n := 12) (by omega), cond_false, show qix (zI (i : Nat)) = i from zI_ixN (by omega), h.2.2.2.2.1.2 i (by omega), if_neg (by rw [zI_0, zI_eq (by omega)]; omega), zI_rem (by omega), show ((gR σ i : Nat) : Int) % (k : Nat) = ((gR σ i % k : Nat) : Int) from rfl]
      by_cases q : gR σ i % k = s
      · rw [if_pos (by rw [q]), qb_M_isLaw_24, zI_of, zI_add]
        exact ih (i + 1) (by omega) (by show (lwb (gR σ) k s i && decide (gR σ i % k = s)) = true; rw [ht, decide_eq_true q]; rfl)
      · have e : lwb (gR σ) k s (i + 1) = false := by show (lwb (gR σ) k s i && decide (gR σ i % k = s)) = false; rw [decide_eq_false q, Bool.and_false]
        have := lwb_up e r
        rw [if_neg (by rw [zI_eq (by omega)]; omega), zI_of, if_pos (Or.inl (by decide +kernel)), show gK σ = i + 1 + r by omega, this]
        rfl
  rw [qe_M_isLaw, qb_M_isLaw_0, zI_of]
  exact L (gK σ) 0 (by omega) rfl
def lwS (R : Nat → Nat) (n k s : Nat) (o : Nat × Int) : Nat × Int := if lwb R k s n = true then (o.1 + 1, ((100 * k + s : Nat) : Int)) else o
def lwK (R : Nat → Nat) (n k : Nat) (o : Nat × Int) : Nat × Int := fol (lwS R n k) 0 k o
def lwQ (R : Nat → Nat) (n q : Nat) (o : Nat × Int) : Nat × Int := if q % 20 < q / 20 + 1 then lwS R n (q / 20 + 1) (q % 20) o else o
theorem fol_shift {α : Type} (F : Nat → α → α) (a : Nat) : ∀ (k c : Nat) (o : α), fol F (a + c) k o = fol (fun i => F (a + i)) c k o
  | 0, _, _ => rfl
  | k + 1, c, o => by
    rw [fol_s, fol_s, show a + c + 1 = a + (c + 1) by omega, fol_shift F a k (c + 1)]
theorem lwQ_20 (R : Nat → Nat) (n j : Nat) (hj : j < 20) (o : Nat × Int) : fol (lwQ R n) (20 * j) 20 o = lwK R n (j + 1) o := by
  have e := fol_add (lwQ R n) (j + 1) (19 - j) (20 * j) o
  rw [show j + 1 + (19 - j) = 20 by omega] at e
  rw [e, fol_id (19 - j) _ _ (fun i h1 h2 o => by unfold lwQ; rw [if_neg (by omega)])]
  have s := fol_shift (lwQ R n) (20 * j) (j + 1) 0 o
  rw [Nat.add_zero] at s
  rw [s]
  exact fol_congr (j + 1) 0 o fun i h1 h2 o => by
    unfold lwQ
    rw [if_pos (by omega), show (20 * j + i) / 20 = j by omega, show (20 * j + i) % 20 = i by omega]
theorem lwQ_all (R : Nat → Nat) (n : Nat) : ∀ (r j : Nat) (o : Nat × Int), j + r ≤ 20 → fol (lwQ R n) (20 * j) (20 * r) o = fol (lwK R n) (j + 1) r o
  | 0, _, _, _ => rfl
  | r + 1, j, o, h => by
    rw [show 20 * (r + 1) = 20 + 20 * r by omega, fol_add, lwQ_20 R n j (by omega), fol_s (lwK R n), show 20 * j + 20 = 20 * (j + 1) by omega, lwQ_all R n r (j + 1) _ (by omega)]
theorem op_law {σ : GS} (ok : GOK σ) {z1 : Int} (h1 : iB z1) : OP 73 225 [qI (zI z1)] σ := by
  have b1 := h1.1
  have b2 := h1.2
  have k12 := ok.2.2.2.2.2.2.1
  have r99 := ok.2.2.2.2.2.2.2
  have mb := mxr_b (R := gR σ) (M := 99) (gK σ) (fun j hj => r99 j (by omega))
  have ml := mxr_le (R := gR σ) (m := 83) (gK σ)
  by_cases hz : 0 ≤ z1 ∧ z1 ≤ 1
  · have e16 : ∀ d μ, CI μ σ → qcall qprogs (d + 30) 73 [qR (0, 0, 0), qI (zI z1)] μ = qx (d + 29) qc_J_law 16 [some (qR (0, 0, 0)), some (qI (zI z1)), none, none, none, none] [] μ := fun d μ h => by
      rw [qe_J_law, qb_J_law_0]
      simp (disch := omega) only [zI_of, zI_0, zI_1, zI_add, zI_sub, zI_mul, zI_neg, zI_lt, zI_le, zI_eq, zI_rem, zI_oob, zI_ixN, zI_ix, zI_ite, zI10, zI01, Int.toNat_natCast, cond_false, cond_true, q01_0, q01_1, q01_0z, q01_1z, qB_if, qB_ifz, qB_ret, qB_retz, qbI_some, qbV_some, qbL_some, qbR_some, qbN_some, qbN_none, true_or, or_true, false_or, or_false, if_true, if_false, Int.reduceEq, Int.reduceLT, Int.reduceLE, Int.reduceNeg]
      by_cases e : z1 = 0
      · rw [if_pos e]
      · rw [if_neg e, if_pos (by omega)]
    have eM : ∀ d μ, MI μ σ → qcall qprogs (d + 30) 225 [qR (24, 0, 0), qI (zI z1)] μ = qx (d + 29) qc_M_law 14 [some (qR (24, 0, 0)), some (qI (zI z1)), none, none, none, none, none] [] μ := fun d μ h => by
      rw [qe_M_law, qb_M_law_0]
      simp only [zI_of]
      rw [c_M_isIn (d + 28) (by omega), qbI_some, show (decide ((0 : Int) ≤ z1) && decide (z1 ≤ 1)) = true by simp [hz], if_neg (by decide)]
    by_cases hr : alle (gR σ) 83 (gK σ) = true
    · have hm := ml.mpr hr
      refine ⟨qI (zI (if z1 = 0 then ((fol (lwK (gR σ) (gK σ)) 1 20 (0, -9)).1 : Int) else (fol (lwK (gR σ) (gK σ)) 1 20 (0, -9)).2)), σ, fun d μ h => ⟨μ, ?_, h, Fr.rf⟩, fun d μ h => ⟨μ, ?_, h, Fr.rf⟩, ok⟩
      · have L2 : ∀ r k s (o : Nat × Int), s + r = k → 1 ≤ k → k ≤ 20 → qx (d + 29) qc_J_law 50 [some (qR (0, 0, 0)), some (qI (zI z1)), some (qI (zI (o.1 : Nat))), some (qI (zI o.2)), some (qI (zI (k : Nat))), some (qI (zI (s : Nat)))] [] μ = qx (d + 29) qc_J_law 86 [some (qR (0, 0, 0)), some (qI (zI z1)), some (qI (zI ((fol (lwS (gR σ) (gK σ) k) s r o).1 : Nat))), some (qI (zI (fol (lwS (gR σ) (gK σ) k) s r o).2)), some (qI (zI (k : Nat))), none] [] μ := by
          intro r
          induction r with
          | zero =>
            intro k s o hs h1 h2
            rw [qb_J_law_50, if_pos (by rw [zI_le (by omega)]; omega)]
            rfl
          | succ r ih =>
            intro k s o hs h1 h2
            have i1 := ih k (s + 1) (lwS (gR σ) (gK σ) k s o) (by omega) h1 h2
            rw [qb_J_law_50, if_neg (by rw [zI_le (by omega)]; omega), c_J_isRowByLaw (d + 27) h ok ⟨h1, h2⟩ (by omega), qbI_some, qB_if, fol_s]
            have el : lwS (gR σ) (gK σ) k s o = if lwb (gR σ) k s (gK σ) = true then (o.1 + 1, ((100 * k + s : Nat) : Int)) else o := rfl
            rw [el] at i1 ⊢
            cases hb : lwb (gR σ) k s (gK σ)
            · rw [hb, if_neg (show ¬ false = true by decide)] at i1
              rw [cond_false, if_neg (show ¬ false = true by decide), qb_J_law_80, zI_of, zI_add]
              exact i1
            · rw [hb, if_pos rfl] at i1
              rw [cond_true, if_pos rfl]
              simp only [zI_of, zI_add, zI_mul]
              rw [qb_J_law_80, zI_of, zI_add]
              exact i1
        have L : ∀ r k (o : Nat × Int), k + r = 21 → 1 ≤ k → qx (d + 29) qc_J_law 40 [some (qR (0, 0, 0)), some (qI (zI z1)), some (qI (zI (o.1 : Nat))), some (qI (zI o.2)), some (qI (zI (k : Nat))), none] [] μ = qx (d + 29) qc_J_law 92 [none, some (qI (zI z1)), some (qI (zI ((fol (lwK (gR σ) (gK σ)) k r o).1 : Nat))), some (qI (zI (fol (lwK (gR σ) (gK σ)) k r o).2)), none, none] [] μ := by
          intro r
          induction r with
          | zero =>
            intro k o hk h1
            rw [qb_J_law_40, zI_of, if_pos (by rw [zI_lt (by omega)]; omega)]
            rfl
          | succ r ih =>
            intro k o hk h1
            rw [qb_J_law_40]
            simp only [zI_of]
            rw [if_neg (by rw [zI_lt (by omega)]; omega)]
            refine (L2 k k 0 o (by omega) h1 (by omega)).trans ?_
            rw [qb_J_law_86, zI_of, zI_add, fol_s]
            exact ih (k + 1) (lwK (gR σ) (gK σ) k o) (by omega) (by omega)
        have l0 := L 20 1 (0, -9) (by decide) (by decide)
        rw [e16 d μ h, qb_J_law_16, c_J_mostInRow (d + 27) h ok, qbI_some, zI_of, if_pos (by rw [zI_le (by omega)]; exact hm), qb_J_law_32]
        simp only [zI_of]
        refine l0.trans ?_
        rw [qb_J_law_92]
        by_cases e : z1 = 0
        · rw [if_pos (show zI z1 = 0 by rw [e]; exact zI0), if_pos e, qb_J_law_101]
        · rw [if_neg (show ¬ zI z1 = 0 by rw [zI_0, zI_eq (by omega)]; exact e), if_neg e, qb_J_law_100, qb_J_law_101]
      · have L : ∀ r q (o : Nat × Int), q + r = 400 → qx (d + 29) qc_M_law 49 [some (qR (24, 0, 0)), some (qI (zI z1)), none, some (qI (zI (o.1 : Nat))), some (qI (zI o.2)), some (qI (zI (q : Nat))), none] [] μ = qx (d + 29) qc_M_law 115 [none, some (qI (zI z1)), none, some (qI (zI ((fol (lwQ (gR σ) (gK σ)) q r o).1 : Nat))), some (qI (zI (fol (lwQ (gR σ) (gK σ)) q r o).2)), none, none] [] μ := by
          intro r
          induction r with
          | zero =>
            intro q o hq
            rw [qb_M_law_49, zI_of, if_pos (by rw [zI_le (by omega)]; omega)]
            rfl
          | succ r ih =>
            intro q o hq
            have i1 := ih (q + 1) (lwQ (gR σ) (gK σ) q o) (by omega)
            rw [qb_M_law_49]
            simp only [zI_of]
            rw [if_neg (by rw [zI_le (by omega)]; omega), if_neg (by decide +kernel), zI_tdiv (by omega), zI_add, zI_mul, zI_sub, show ((q : Nat) : Int) - ((q : Nat) : Int) / 20 * 20 = ((q % 20 : Nat) : Int) by omega, show ((q : Nat) : Int) / 20 + 1 = ((q / 20 + 1 : Nat) : Int) by omega, fol_s, if_neg (show ¬ zI 20 = 0 by decide +kernel)]
            have el : lwQ (gR σ) (gK σ) q o = if q % 20 < q / 20 + 1 then lwS (gR σ) (gK σ) (q / 20 + 1) (q % 20) o else o := rfl
            by_cases e : q % 20 < q / 20 + 1
            · rw [el, if_pos e] at i1 ⊢
              have em : lwS (gR σ) (gK σ) (q / 20 + 1) (q % 20) o = if lwb (gR σ) (q / 20 + 1) (q % 20) (gK σ) = true then (o.1 + 1, ((100 * (q / 20 + 1) + q % 20 : Nat) : Int)) else o := rfl
              rw [em] at i1 ⊢
              rw [if_neg (by rw [zI_le (by omega)]; omega), c_M_isLaw (d + 28) h ok (by omega) e, qbI_some, qB_if]
              cases hb : lwb (gR σ) (q / 20 + 1) (q % 20) (gK σ)
              · rw [hb, if_neg (show ¬ false = true by decide)] at i1
                rw [cond_false, if_neg (show ¬ false = true by decide), qb_M_law_109, zI_of, zI_add]
                exact i1
              · rw [hb, if_pos rfl] at i1
                rw [cond_true, if_pos rfl, qb_M_law_93]
                simp only [zI_of]
                rw [if_neg (by decide +kernel), zI_tdiv (by omega), zI_mul, zI_mul, zI_sub, show ((q : Nat) : Int) - ((q : Nat) : Int) / 20 * 20 = ((q % 20 : Nat) : Int) by omega, zI_add, zI_add, qb_M_law_109, zI_of, zI_add]
                exact i1
            · rw [el, if_neg e] at i1 ⊢
              rw [if_pos (by rw [zI_le (by omega)]; omega), qb_M_law_109, zI_of, zI_add]
              exact i1
        have l0 := L 400 0 (0, -9) (by decide)
        have la := lwQ_all (gR σ) (gK σ) 20 0 (0, -9) (by decide)
        rw [show 20 * 0 = 0 from rfl, show 20 * 20 = 400 from rfl, show 0 + 1 = 1 from rfl] at la
        rw [la] at l0
        have au := c_M_areUpTo (d + 28) (m := 83) h ok (by decide)
        rw [eM d μ h, qb_M_law_14]
        simp only [zI_of]
        rw [show qcall qprogs (d + 29) 223 [qR (24, 0, 0), qI (zI 83)] μ = _ from au, qbI_some, hr, if_neg (by decide), qb_M_law_28, zI_of, qb_M_law_29, if_pos zI0, qb_M_law_40]
        simp only [zI_of]
        refine l0.trans ?_
        rw [qb_M_law_115]
        by_cases e : z1 = 0
        · rw [if_pos (show zI z1 = 0 by rw [e]; exact zI0), if_pos e, qb_M_law_125]
        · rw [if_neg (show ¬ zI z1 = 0 by rw [zI_0, zI_eq (by omega)]; exact e), if_neg e, qb_M_law_123, qb_M_law_125]
    · have hm : ¬ mxr (gR σ) (gK σ) ≤ 83 := fun z => hr (ml.mp z)
      refine ⟨qI (zI (-3)), refS σ 3, fun d μ h => ?_, fun d μ h => ?_, ok.ref⟩
      · rw [e16 d μ h, qb_J_law_16, c_J_mostInRow (d + 27) h ok, qbI_some]
        simp only [zI_of]
        rw [if_neg (by rw [zI_le (by omega)]; exact hm)]
        exact j_ref1 (d := d + 28) (f := -3) h (by decide)
      · have au := c_M_areUpTo (d + 28) (m := 83) h ok (by decide)
        have hr2 : alle (gR σ) 83 (gK σ) = false := by simpa using hr
        rw [eM d μ h, qb_M_law_14]
        simp only [zI_of]
        rw [show qcall qprogs (d + 29) 223 [qR (24, 0, 0), qI (zI 83)] μ = _ from au, qbI_some, hr2, if_pos (by decide), qb_M_law_29, if_neg (by decide +kernel)]
        exact m_ref1 (d := d + 28) (f := -3) h (by decide)
  · refine ⟨qI (zI (-2)), refS σ 2, fun d μ h => ?_, fun d μ h => ?_, ok.ref⟩
    · rw [qe_J_law, qb_J_law_0]
      simp only [zI_of]
      rw [if_neg (by rw [zI_0, zI_eq (by omega)]; omega), if_neg (by rw [zI_eq (by omega)]; omega)]
      exact j_ref1 (d := d + 28) (f := -2) h (by decide)
    · rw [qe_M_law, qb_M_law_0]
      simp only [zI_of]
      rw [c_M_isIn (d + 28) (by omega), qbI_some, show (decide ((0 : Int) ≤ z1) && decide (z1 ≤ 1)) = false by rw [← Bool.decide_and]; exact decide_eq_false hz, if_pos (by decide), qb_M_law_29, if_neg (by decide +kernel)]
      exact m_ref1 (d := d + 28) (f := -2) h (by decide)
end
