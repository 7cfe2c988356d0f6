/-! quarrels: days on which both have a cause by hand -/
def cntB (P : Nat → Bool) : Nat → Nat
  | 0 => 0
  | n + 1 => cntB P n + (if P n = true then 1 else 0)
theorem cntB_s (P : Nat → Bool) (n : Nat) : cntB P (n + 1) = cntB P n + (if P n = true then 1 else 0) := rfl
theorem cntB_mono {P : Nat → Bool} : ∀ {a b : Nat}, a ≤ b → cntB P a ≤ cntB P b
  | a, 0, h => by rw [show a = 0 by omega]; exact Nat.le_refl _
  | a, b + 1, h => by
    by_cases e : a = b + 1
    · rw [e]; exact Nat.le_refl _
    · have := cntB_mono (P := P) (show a ≤ b by omega)
      rw [cntB_s]
      omega
theorem cntB_le {P : Nat → Bool} : ∀ n, cntB P n ≤ n
  | 0 => Nat.le_refl 0
  | n + 1 => by
    have := cntB_le (P := P) n
    rw [cntB_s]
    split <;> omega
theorem cntB_flat {P : Nat → Bool} {a : Nat} : ∀ k, (∀ i, a ≤ i → i < a + k → P i = false) → cntB P (a + k) = cntB P a
  | 0, _ => rfl
  | k + 1, h => by
    show cntB P (a + k + 1) = _
    rw [cntB_s, cntB_flat k (fun i h1 h2 => h i h1 (by omega)), h (a + k) (by omega) (by omega)]
    rfl
theorem ffr_skip {P : Nat → Bool} {k : Nat} : ∀ (a c : Nat), (∀ i, c ≤ i → i < c + a → P i = false) → ffr P (a + k) c = ffr P k (c + a)
  | 0, c, _ => by rw [Nat.zero_add, Nat.add_zero]
  | a + 1, c, h => by
    rw [show a + 1 + k = (a + k) + 1 by omega, ffr_s, h c (by omega) (by omega), if_neg (by decide), ffr_skip a (c + 1) (fun i h1 h2 => h i (by omega) (by omega)), show c + (a + 1) = c + 1 + a by omega]
/-- how many of the first m have a day with a cause -/
def hc (h : Nat → Option Nat) (D : Nat → Nat) (x : Nat) : Nat → Nat
  | 0 => 0
  | m + 1 => hc h D x m + (if D m = x ∧ (h m).isSome = true then 1 else 0)
theorem hc_hOn {h : Nat → Option Nat} {D : Nat → Nat} {x : Nat} (hD : ∀ i j, i < j → D i < D j) : ∀ k i, (∀ j, j < i → D j ≠ x) → hc h D x (i + k) = match ffr (fun i => decide (D i = x)) k i with
    | none => 0
    | some i => if (h i).isSome = true then 1 else 0
  | 0, i, hj => by
    show hc h D x i = 0
    induction i with
    | zero => rfl
    | succ i ih =>
      show hc h D x i + (if D i = x ∧ (h i).isSome = true then 1 else 0) = 0
      rw [ih (fun j h1 => hj j (by omega)), if_neg (fun z => hj i (by omega) z.1)]
  | k + 1, i, hj => by
    rw [ffr_s]
    by_cases e : D i = x
    · rw [if_pos (by simp [e])]
      have flat : ∀ n, hc h D x (i + 1 + n) = hc h D x (i + 1) := fun n => by
        induction n with
        | zero => rfl
        | succ n ih =>
          show hc h D x (i + 1 + n) + (if D (i + 1 + n) = x ∧ (h (i + 1 + n)).isSome = true then 1 else 0) = _
          rw [ih, if_neg (fun z => by have := hD i (i + 1 + n) (by omega); omega)]
          rfl
      have z : hc h D x i = 0 := hc_hOn hD 0 i hj
      rw [show i + (k + 1) = i + 1 + k by omega, flat k]
      show hc h D x i + (if D i = x ∧ (h i).isSome = true then 1 else 0) = _
      rw [z]
      by_cases q : (h i).isSome = true
      · rw [if_pos ⟨e, q⟩, Nat.zero_add]
        exact (if_pos q).symm
      · rw [if_neg (fun z => q z.2)]
        exact (if_neg q).symm
    · rw [if_neg (by simp [e]), show i + (k + 1) = i + 1 + k by omega]
      exact hc_hOn hD k (i + 1) (fun j h1 => by
        by_cases q : j = i
        · rw [q]; exact e
        · exact hj j (by omega))
theorem hc_on {h : Nat → Option Nat} {D : Nat → Nat} {x m : Nat} (hD : ∀ i j, i < j → D i < D j) : hc h D x m = if hOn h D m x = true then 1 else 0 := by
  have := hc_hOn (h := h) (x := x) hD m 0 (fun j hj => absurd hj (by omega))
  rw [Nat.zero_add] at this
  rw [this]
  unfold hOn
  cases ffr (fun i => decide (D i = x)) m 0 with
  | none => rfl
  | some i => rfl
theorem nD_up (s : AS) (w wd : Nat) : ∀ i j, i < j → nD s w wd i < nD s w wd j := fun i j h => by unfold nD; omega
/-- both quarrel on a day -/
def qu (s : AS) (n x : Nat) : Bool := hOn (hH s 0 (nD s 0 (aP s 0 0))) (nD s 0 (aP s 0 0)) (nM s 0 (aP s 0 0) n) x && hOn (hH s 1 (nD s 1 (aP s 1 0))) (nD s 1 (aP s 1 0)) (nM s 1 (aP s 1 0) n) x
theorem hOn_in {s : AS} {w wd n x : Nat} {h : Nat → Option Nat} (hq : hOn h (nD s w wd) (nM s w wd n) x = true) : aD s ≤ x ∧ x ≤ n := by
  unfold hOn at hq
  cases hf : ffr (fun i => decide (nD s w wd i = x)) (nM s w wd n) 0 with
  | none => rw [hf] at hq; cases hq
  | some i =>
    obtain ⟨-, h2, h3⟩ := ffr_some _ _ hf
    have h3 : nD s w wd i = x := by simpa using h3
    unfold nD at h3
    unfold nM at h2
    have : aD s ≤ n0 s w wd := by unfold n0; omega
    omega
theorem op_quarrel {σ : GS} (ok : GOK σ) {z1 z2 : Int} (h1 : iB z1) (h2 : iB z2) : OP 97 248 [qI (zI z1), qI (zI z2)] σ := by
  have b1 := h1.1
  have b2 := h1.2
  have b3 := h2.1
  have b4 := h2.2
  have bD := ok.1.1
  have n12 := ok.1.2.1
  have hr0 := fDay_r (gS σ) z1
  have hr := fWh_r (z := z2) (m := 1) hr0
  have st : ∀ d μ, MI μ σ → qcall qprogs (d + 30) 248 [qR (24, 0, 0), qI (zI z1), qI (zI z2)] μ = qx (d + 29) qc_M_quarrel 27 [some (qR (24, 0, 0)), some (qI (zI z1)), some (qI (zI z2)), some (qI (zI (fWh (fDay (gS σ) z1) z2 1))), none, none, none] [] μ := fun d μ h => by
    rw [qe_M_quarrel, qb_M_quarrel_0, h.1.day, zI_of, c_M_bound (d + 28) (by omega), qbI_some, show (if z1 < (aD (gS σ) : Nat) then (-4 : Int) else if 83 < z1 then -6 else 0) = fDay (gS σ) z1 from rfl]
    unfold fWh
    by_cases e : fDay (gS σ) z1 = 0
    · rw [e, if_pos zI0, if_pos rfl, zI_of 0, zI_of, c_M_isIn (d + 28) (by unfold iB at *; omega), qbI_some, qB_if]
      by_cases e2 : 0 ≤ z2 ∧ z2 ≤ 1
      · rw [show (decide ((0 : Int) ≤ z2) && decide (z2 ≤ 1)) = true by simp [e2], cond_true, if_pos e2]
      · rw [show (decide ((0 : Int) ≤ z2) && decide (z2 ≤ 1)) = false by rw [← Bool.decide_and]; exact decide_eq_false e2, cond_false, if_neg e2, zI_of]
    · rw [if_neg (zI_n0 (by omega)), if_neg e]
  by_cases hf : fWh (fDay (gS σ) z1) z2 1 = 0
  · have hf0 := hf
    obtain ⟨hf1, hz0, hz1⟩ := fWh_0 hf
    obtain ⟨n, rfl, hn, hn2⟩ := fDay_0 hf1
    have m0 := nM_le ok.1 (w := 0) (wd := aP (gS σ) 0 0) hn2
    have m1 := nM_le ok.1 (w := 1) (wd := aP (gS σ) 1 0) hn2
    have out : ∀ x, ¬ (aD (gS σ) ≤ x ∧ x ≤ n) → qu (gS σ) n x = false := fun x hx => by
      cases q : qu (gS σ) n x
      · rfl
      · unfold qu at q
        rw [Bool.and_eq_true] at q
        exact absurd (hOn_in q.1) hx
    have cn : ∀ k, cntB (qu (gS σ) n) k ≤ k := fun k => cntB_le k
    refine ⟨qI (zI (if z2 = 0 then (cntB (qu (gS σ) n) 84 : Nat) else onM (ffr (qu (gS σ) n) 84 0))), σ, fun d μ h => ?_, fun d μ h => ?_, ok⟩
    · obtain ⟨μ1, Q, r1, r2, r3, r4⟩ := j_prep (d + 24) (w := 0) h ok (by decide) hn hn2
      obtain ⟨μ2, q1, q2, q3⟩ := c_Plan_layByHand (d + 27) (show 0 < 2 by decide) ok.1 r4
      have r5 := r4.h q2
      have ci := r2.pp q2.pl r5
      obtain ⟨μ3, Q', r2', r3', r4'⟩ := c_J_prepared (d + 24) (show 0 < 11 by decide) ci.1.1.1 ok.1 (show 1 < 2 by decide) hn hn2 (ci.1.2 1 (by decide)).1
      have ci' := ci.1.pp r3' r4'
      obtain ⟨μ4, q1', q2', q3'⟩ := c_Plan_layByHand (d + 27) (show 1 < 2 by decide) ok.1 r4'
      have r5' := r4'.h q2'
      have ci4 := ci'.1.pp q2'.pl r5'
      have no1 : ∀ a, isPl 0 a → ¬ isPl 1 a := fun a z1 z2 => by have := z1.2.2; have := z2.2.2; omega
      have f24 := r3'.tr q2'.pl
      have p0 : PP μ4 0 (gS σ) _ _ _ _ := r5.fr f24 no1
      have hh0 : PH μ4 0 (gS σ) 0 (nD (gS σ) 0 (aP (gS σ) 0 0)) (nM (gS σ) 0 (aP (gS σ) 0 0) n) := fun i hi => by rw [f24.1 _ (no1 _ (isPl_of (by decide)))]; exact q3 i hi
      have L : ∀ k, k ≤ n + 1 - aD (gS σ) → qx (d + 29) qc_J_quarrel 53 [some (qR (0, 0, 0)), none, some (qI (zI z2)), none, some (qI (zI ((cntB (qu (gS σ) n) (n + 1) : Nat) - (cntB (qu (gS σ) n) (aD (gS σ) + k) : Nat) : Int))), some (qI (zI (onM (ffr (qu (gS σ) n) (n + 1 - (aD (gS σ) + k)) (aD (gS σ) + k))))), some (qI (zI ((aD (gS σ) + k : Nat) - 1 : Int)))] [] μ4 = some (some (qI (zI (if z2 = 0 then (cntB (qu (gS σ) n) 84 : Nat) else onM (ffr (qu (gS σ) n) 84 0)))), μ4) := by
        intro k
        induction k with
        | zero =>
          intro hk
          have c1 := cn (n + 1)
          have c2 := cn (aD (gS σ))
          have e84 : cntB (qu (gS σ) n) 84 = cntB (qu (gS σ) n) (n + 1) := by
            have := cntB_flat (P := qu (gS σ) n) (a := n + 1) (84 - (n + 1)) (fun i a b => out i (by omega))
            rw [show n + 1 + (84 - (n + 1)) = 84 by omega] at this
            exact this
          have e0 : cntB (qu (gS σ) n) (aD (gS σ)) = 0 := by
            have := cntB_flat (P := qu (gS σ) n) (a := 0) (aD (gS σ)) (fun i a b => out i (by omega))
            rw [Nat.zero_add] at this
            exact this
          have ef : ffr (qu (gS σ) n) 84 0 = ffr (qu (gS σ) n) (n + 1 - aD (gS σ)) (aD (gS σ)) := by
            have := ffr_skip (P := qu (gS σ) n) (k := 84 - aD (gS σ)) (aD (gS σ)) 0 (fun i a b => out i (by omega))
            rw [show aD (gS σ) + (84 - aD (gS σ)) = 84 by omega, Nat.zero_add] at this
            rw [this]
            exact ffr_cut (N := n + 1) (fun c hc => out c (by omega)) _ _ _ (by omega) (by omega)
          rw [qb_J_quarrel_53, ci4.1.1.1.day, if_pos (by rw [zI_lt (by omega)]; omega), qb_J_quarrel_102]
          by_cases e : z2 = 0
          · rw [if_pos (by rw [e]; exact zI0), if_pos e, qb_J_quarrel_113]
            refine q_ret ?_
            have e0' : cntB (qu (gS σ) n) (aD (gS σ) + 0) = 0 := e0
            rw [e84, e0']
            omega
          · rw [if_neg (by rw [zI_0, zI_eq (by omega)]; exact e), if_neg e, qb_J_quarrel_111, qb_J_quarrel_113, ef]
            rfl
        | succ k ih =>
          intro hk
          have i1 := ih (by omega)
          have ex : (((aD (gS σ) + k + 1 : Nat) : Int) - 1) = (aD (gS σ) + k : Nat) := by omega
          have mm := cntB_mono (P := qu (gS σ) n) (show aD (gS σ) + (k + 1) ≤ n + 1 by omega)
          have x0 := c_Plan_hasByHandOn (d + 28) (x := aD (gS σ) + k) (show 0 < 2 by decide) ok.1 p0.1 hh0 (by omega)
          have x1 := c_Plan_hasByHandOn (d + 28) (x := aD (gS σ) + k) (show 1 < 2 by decide) ok.1 r5'.1 q3' (by omega)
          rw [show n + 1 - (aD (gS σ) + k) = (n + 1 - (aD (gS σ) + (k + 1))) + 1 by omega, ffr_s] at i1
          have c1 := cn (n + 1)
          have c2 := cn (aD (gS σ) + k)
          rw [show aD (gS σ) + (k + 1) = aD (gS σ) + k + 1 from rfl] at mm ⊢
          rw [cntB_s _ (aD (gS σ) + k)] at mm ⊢
          have skip : qu (gS σ) n (aD (gS σ) + k) = false → qx (d + 29) qc_J_quarrel 96 [some (qR (0, 0, 0)), none, some (qI (zI z2)), none, some (qI (zI ((cntB (qu (gS σ) n) (n + 1) : Nat) - (cntB (qu (gS σ) n) (aD (gS σ) + k) + (if qu (gS σ) n (aD (gS σ) + k) = true then 1 else 0) : Nat) : Int))), some (qI (zI (onM (ffr (qu (gS σ) n) (n + 1 - (aD (gS σ) + k + 1)) (aD (gS σ) + k + 1))))), some (qI (zI (aD (gS σ) + k : Nat)))] [] μ4 = some (some (qI (zI (if z2 = 0 then (cntB (qu (gS σ) n) 84 : Nat) else onM (ffr (qu (gS σ) n) 84 0)))), μ4) := fun hb => by
            rw [hb, if_neg (by decide)] at i1
            rw [hb, if_neg (by decide), qb_J_quarrel_96]
            simp (disch := omega) only [zI_of, zI_0, zI_1, zI_add, zI_sub, zI_mul, zI_neg, zI_lt, zI_le, zI_eq, zI_rem, zI_oob, zI_ixN, zI_ix, zI_ite, zI10, zI01, Int.toNat_natCast, cond_false, cond_true, q01_0, q01_1, q01_0z, q01_1z, qB_if, qB_ifz, qB_ret, qB_retz, qbI_some, qbV_some, qbL_some, qbR_some, qbN_some, qbN_none, true_or, or_true, false_or, or_false, if_true, if_false, Int.reduceEq, Int.reduceLT, Int.reduceLE, Int.reduceNeg]
            exact i1
          rw [qb_J_quarrel_53, ci4.1.1.1.day, ex, if_neg (by rw [zI_lt (by omega)]; omega), x0, qbI_some, x1, qbI_some, qB_if, qB_if]
          cases y0 : hOn (hH (gS σ) 0 (nD (gS σ) 0 (aP (gS σ) 0 0))) (nD (gS σ) 0 (aP (gS σ) 0 0)) (nM (gS σ) 0 (aP (gS σ) 0 0) n) (aD (gS σ) + k)
          · exact skip (by unfold qu; rw [y0]; rfl)
          · cases y1 : hOn (hH (gS σ) 1 (nD (gS σ) 1 (aP (gS σ) 1 0))) (nD (gS σ) 1 (aP (gS σ) 1 0)) (nM (gS σ) 1 (aP (gS σ) 1 0) n) (aD (gS σ) + k)
            · exact skip (by unfold qu; rw [y0, y1]; rfl)
            · have hq : qu (gS σ) n (aD (gS σ) + k) = true := by unfold qu; rw [y0, y1]; rfl
              rw [hq, if_pos rfl] at i1
              rw [hq, if_pos rfl] at mm ⊢
              rw [cond_true, cond_true, qb_J_quarrel_96]
              simp (disch := omega) only [zI_of, zI_0, zI_1, zI_add, zI_sub, zI_mul, zI_neg, zI_lt, zI_le, zI_eq, zI_rem, zI_oob, zI_ixN, zI_ix, zI_ite, zI10, zI01, Int.toNat_natCast, cond_false, cond_true, q01_0, q01_1, q01_0z, q01_1z, qB_if, qB_ifz, qB_ret, qB_retz, qbI_some, qbV_some, qbL_some, qbR_some, qbN_some, qbN_none, true_or, or_true, false_or, or_false, if_true, if_false, Int.reduceEq, Int.reduceLT, Int.reduceLE, Int.reduceNeg]
              rw [show ((cntB (qu (gS σ) n) (n + 1) : Nat) : Int) - (cntB (qu (gS σ) n) (aD (gS σ) + k) + 1 : Nat) + 1 = (cntB (qu (gS σ) n) (n + 1) : Nat) - (cntB (qu (gS σ) n) (aD (gS σ) + k) : Nat) by omega]
              exact i1
      rw [qe_J_quarrel, qb_J_quarrel_0, c_J_faultOfDayWhat (d + 27) h.1.1 ok.1 h1 h2, qbI_some, hf, if_pos zI0, qb_J_quarrel_17, zI_of, zI_of, show zI (0 : Int) = zI ((0 : Nat) : Int) from rfl, show zI (1 : Int) = zI ((1 : Nat) : Int) from rfl, r1, qbR_some (qd5 (by decide)), q1, qbV_some, r2', qbR_some (qd5 (by decide)), q1', qbV_some]
      have := L (n + 1 - aD (gS σ)) (Nat.le_refl _)
      rw [show aD (gS σ) + (n + 1 - aD (gS σ)) = n + 1 by omega, Nat.sub_self, Int.sub_self, show (((n + 1 : Nat) : Int) - 1) = (n : Nat) by omega] at this
      exact ⟨μ4, this, ci4.1, r3.tr (ci.2.tr (ci'.2.tr ci4.2))⟩
    · have wr : ∀ (i : Nat) (μ : QM) (v : Int32), MI μ σ → MI (qsi μ (49, 0, 0) i v) σ ∧ Fr isMd μ (qsi μ (49, 0, 0) i v) := fun i μ v h => by
        have fq : FrR μ (qsi μ (49, 0, 0) i v) := ⟨Fr.si (Or.inr (Or.inr (Or.inr (by decide)))), fun k hk => by rw [qsi_ne (by simp)], fun x _ => by rw [qsi_ne (by simp)]⟩
        exact h.rr ok fq (h.1.congr (by rw [qsi_ne (by simp)]) (by rw [qsi_ne (by simp)]) (fun k hk => qsi_ne (by simp; omega)) rfl rfl (fun _ _ _ _ => rfl) (fun _ _ _ _ => rfl))
      have L3 : ∀ (f : Nat → Nat) (μ2 : QM), (∀ d, d < 84 → f d ≤ 24 ∧ μ2.1 (49, 0, 0) d = zI (f d : Nat)) → (∀ d, d < 84 → decide (2 ≤ f d) = qu (gS σ) n d) → ∀ r, r ≤ 84 → qx (d + 29) qc_M_quarrel 142 [some (qR (24, 0, 0)), none, some (qI (zI z2)), none, some (qI (zI ((cntB (qu (gS σ) n) 84 : Nat) - (cntB (qu (gS σ) n) r : Nat) : Int))), some (qI (zI (onM (ffr (qu (gS σ) n) (84 - r) r)))), some (qI (zI ((r : Int) - 1)))] [] μ2 = some (some (qI (zI (if z2 = 0 then (cntB (qu (gS σ) n) 84 : Nat) else onM (ffr (qu (gS σ) n) 84 0)))), μ2) := by
        intro f μ2 hf hq r
        induction r with
        | zero =>
          intro _
          rw [qb_M_quarrel_142]
          simp (disch := omega) only [zI_of, zI_0, zI_1, zI_add, zI_sub, zI_mul, zI_neg, zI_lt, zI_le, zI_eq, zI_rem, zI_oob, zI_ixN, zI_ix, zI_ite, zI10, zI01, Int.toNat_natCast, cond_false, cond_true, q01_0, q01_1, q01_0z, q01_1z, qB_if, qB_ifz, qB_ret, qB_retz, qbI_some, qbV_some, qbL_some, qbR_some, qbN_some, qbN_none, true_or, or_true, false_or, or_false, if_true, if_false, Int.reduceEq, Int.reduceLT, Int.reduceLE, Int.reduceNeg]
          rw [if_pos (by omega), qb_M_quarrel_174]
          by_cases e : z2 = 0
          · rw [if_pos (by rw [e]; exact zI0), if_pos e, qb_M_quarrel_185]
            refine q_ret ?_
            show ((cntB (qu (gS σ) n) 84 : Nat) : Int) - (0 : Nat) = _
            omega
          · rw [if_neg (by rw [zI_0, zI_eq (by omega)]; exact e), if_neg e, qb_M_quarrel_183, qb_M_quarrel_185]
        | succ r ih =>
          intro hr9
          have i1 := ih (by omega)
          obtain ⟨f1, f2⟩ := hf r (by omega)
          have q1 := hq r (by omega)
          have c1 := cn 84
          have c2 := cn r
          have ex : (((r + 1 : Nat) : Int) - 1) = (r : Nat) := by omega
          rw [show 84 - r = (84 - (r + 1)) + 1 by omega, ffr_s] at i1
          have mm := cntB_mono (P := qu (gS σ) n) hr9
          rw [cntB_s _ r] at mm
          rw [qb_M_quarrel_142, ex, if_neg (by rw [zI_0, zI_lt (by omega)]; omega), zI_oob (n := 84) (by omega), cond_false, show qix (zI (r : Nat)) = r from zI_ixN (by omega), f2, cntB_s _ r]
          by_cases e : 2 ≤ f r
          · rw [decide_eq_true e] at q1
            rw [← q1, if_pos rfl] at i1 mm ⊢
            rw [if_pos (by rw [zI_of, zI_le (by omega)]; omega), qb_M_quarrel_161, qb_M_quarrel_168]
            simp (disch := omega) only [zI_of, zI_0, zI_1, zI_add, zI_sub, zI_mul, zI_neg, zI_lt, zI_le, zI_eq, zI_rem, zI_oob, zI_ixN, zI_ix, zI_ite, zI10, zI01, Int.toNat_natCast, cond_false, cond_true, q01_0, q01_1, q01_0z, q01_1z, qB_if, qB_ifz, qB_ret, qB_retz, qbI_some, qbV_some, qbL_some, qbR_some, qbN_some, qbN_none, true_or, or_true, false_or, or_false, if_true, if_false, Int.reduceEq, Int.reduceLT, Int.reduceLE, Int.reduceNeg]
            rw [show ((cntB (qu (gS σ) n) 84 : Nat) : Int) - (cntB (qu (gS σ) n) r + 1 : Nat) + 1 = (cntB (qu (gS σ) n) 84 : Nat) - (cntB (qu (gS σ) n) r : Nat) by omega]
            exact i1
          · rw [decide_eq_false e] at q1
            rw [← q1, if_neg (show ¬ false = true by decide)] at i1 mm ⊢
            rw [if_neg (by rw [zI_of, zI_le (by omega)]; omega), qb_M_quarrel_168]
            simp (disch := omega) only [zI_of, zI_0, zI_1, zI_add, zI_sub, zI_mul, zI_neg, zI_lt, zI_le, zI_eq, zI_rem, zI_oob, zI_ixN, zI_ix, zI_ite, zI10, zI01, Int.toNat_natCast, cond_false, cond_true, q01_0, q01_1, q01_0z, q01_1z, qB_if, qB_ifz, qB_ret, qB_retz, qbI_some, qbV_some, qbL_some, qbR_some, qbN_some, qbN_none, true_or, or_true, false_or, or_false, if_true, if_false, Int.reduceEq, Int.reduceLT, Int.reduceLE, Int.reduceNeg]
            exact i1
      have L2 : ∀ (w : Nat) (f : Nat → Nat) (μ1 : QM), w < 2 → MI μ1 σ → (∀ d, d < 84 → f d ≤ 12 ∧ μ1.1 (49, 0, 0) d = zI (f d : Nat)) → ∃ μ2, qx (d + 29) qc_M_quarrel 64 [some (qR (24, 0, 0)), some (qI (zI (n : Nat))), some (qI (zI z2)), none, some (qI (zI (w : Nat))), none, none] [] μ1 = qx (d + 29) qc_M_quarrel 64 [some (qR (24, 0, 0)), some (qI (zI (n : Nat))), some (qI (zI z2)), none, some (qI (zI ((w + 1 : Nat) : Int))), none, none] [] μ2 ∧ MI μ2 σ ∧ Fr isMd μ1 μ2 ∧ ∀ d, d < 84 → μ2.1 (49, 0, 0) d = zI ((f d + hc (hH (gS σ) w (nD (gS σ) w (aP (gS σ) w 0))) (nD (gS σ) w (aP (gS σ) w 0)) d (nM (gS σ) w (aP (gS σ) w 0) n) : Nat) : Int) := by
        intro w f μ1 hw h hf
        obtain ⟨μ2, r1, r2, r3, r4⟩ := c_M_findHand (d + 24) h.1 ok.1 hw hn hn2
        have h2 := h.q ok r2
        have hN : ∀ i, i < nM (gS σ) w (aP (gS σ) w 0) n → nD (gS σ) w (aP (gS σ) w 0) i < 84 := fun i hi => by
          unfold nM at hi; unfold nD; omega
        generalize nM (gS σ) w (aP (gS σ) w 0) n = m at *
        generalize nD (gS σ) w (aP (gS σ) w 0) = D at *
        have hl : ∀ x k, hc (hH (gS σ) w D) D x k ≤ k := fun x k => by
          induction k with
          | zero => exact Nat.le_refl 0
          | succ k ih => show hc _ _ _ k + (if _ then 1 else 0) ≤ k + 1; split <;> omega
        have m12 := r3.1
        have L : ∀ r k μ3, k + r = m → MI μ3 σ → Fr isMd μ1 μ3 → PDm μ3 m D → PHm μ3 (gS σ) w D m → (∀ d, d < 84 → μ3.1 (49, 0, 0) d = zI ((f d + hc (hH (gS σ) w D) D d k : Nat) : Int)) → ∃ μ4, qx (d + 29) qc_M_quarrel 80 [some (qR (24, 0, 0)), some (qI (zI (n : Nat))), some (qI (zI z2)), none, some (qI (zI (w : Nat))), some (qI (zI (k : Nat))), none] [] μ3 = qx (d + 29) qc_M_quarrel 64 [some (qR (24, 0, 0)), some (qI (zI (n : Nat))), some (qI (zI z2)), none, some (qI (zI ((w + 1 : Nat) : Int))), none, none] [] μ4 ∧ MI μ4 σ ∧ Fr isMd μ1 μ4 ∧ ∀ d, d < 84 → μ4.1 (49, 0, 0) d = zI ((f d + hc (hH (gS σ) w D) D d m : Nat) : Int) := by
          intro r
          induction r with
          | zero =>
            intro k μ3 hk h3 fr hP hH' hv
            rw [qb_M_quarrel_80, hP.2.1]
            simp (disch := omega) only [zI_of, zI_0, zI_1, zI_add, zI_sub, zI_mul, zI_neg, zI_lt, zI_le, zI_eq, zI_rem, zI_oob, zI_ixN, zI_ix, zI_ite, zI10, zI01, Int.toNat_natCast, cond_false, cond_true, q01_0, q01_1, q01_0z, q01_1z, qB_if, qB_ifz, qB_ret, qB_retz, qbI_some, qbV_some, qbL_some, qbR_some, qbN_some, qbN_none, true_or, or_true, false_or, or_false, if_true, if_false, Int.reduceEq, Int.reduceLT, Int.reduceLE, Int.reduceNeg, qb_M_quarrel_125]
            rw [if_pos (by omega)]
            exact ⟨μ3, rfl, h3, fr, by rw [show m = k by omega]; exact hv⟩
          | succ r ih =>
            intro k μ3 hk h3 fr hP hH' hv
            have dk := hN k (by omega)
            have vk := hv (D k) dk
            have hk9 := hH' k (by omega)
            have fin : ∀ b : Nat, b = (if (hH (gS σ) w D k).isSome = true then 1 else 0) → ∃ μ4, qx (d + 29) qc_M_quarrel 117 [some (qR (24, 0, 0)), some (qI (zI (n : Nat))), some (qI (zI z2)), none, some (qI (zI (w : Nat))), some (qI (zI (k : Nat))), none] [qI (zI (b : Nat)), qI (zI ((f (D k) + hc (hH (gS σ) w D) D (D k) k : Nat) : Int)), qI (zI (D k : Nat)), qR (49, 0, 0)] μ3 = qx (d + 29) qc_M_quarrel 64 [some (qR (24, 0, 0)), some (qI (zI (n : Nat))), some (qI (zI z2)), none, some (qI (zI ((w + 1 : Nat) : Int))), none, none] [] μ4 ∧ MI μ4 σ ∧ Fr isMd μ1 μ4 ∧ ∀ d, d < 84 → μ4.1 (49, 0, 0) d = zI ((f d + hc (hH (gS σ) w D) D d m : Nat) : Int) := fun b hb => by
              rw [qb_M_quarrel_117, zI_oob (n := 84) (by omega), cond_false, show qix (zI (D k : Nat)) = D k from zI_ixN (by omega), zI_of, zI_add, zI_addN, show ((k : Nat) : Int) + 1 = ((k + 1 : Nat) : Int) from rfl]
              have w1 := wr (D k) μ3 (zI ((f (D k) + hc (hH (gS σ) w D) D (D k) k + b : Nat) : Int)) h3
              refine ih (k + 1) _ (by omega) w1.1 (fr.tr w1.2) (hP.congr (by rw [qsi_ne (by simp)]) (qsi_ne (by simp))) (fun i hi => by rw [qsi_ne (by simp)]; exact hH' i hi) fun x hx => ?_
              rw [qsi_get]
              show _ = zI ((f x + (hc (hH (gS σ) w D) D x k + (if D k = x ∧ (hH (gS σ) w D k).isSome = true then 1 else 0)) : Nat) : Int)
              by_cases e : x = D k
              · subst e
                rw [if_pos ⟨rfl, rfl⟩]
                refine zI_congr ?_
                rw [hb]
                by_cases q : (hH (gS σ) w D k).isSome = true
                · rw [if_pos q, if_pos ⟨rfl, q⟩]; omega
                · rw [if_neg q, if_neg (fun z => q z.2)]; omega
              · rw [if_neg (by simp [e]), hv x hx, if_neg (fun z => e z.1.symm)]
                rfl
            rw [qb_M_quarrel_80, hP.2.1, if_neg (by rw [zI_le (by omega)]; omega), zI_oob (n := 12) (by omega), cond_false, show qix (zI (k : Nat)) = k from zI_ixN (by omega), (hP.2.2 k (by omega)).2, zI_oob (n := 84) (by omega), cond_false, cond_false, hk9, show qix (zI (D k : Nat)) = D k from zI_ixN (by omega), vk, onM_lt _ _ (fun b hb => by have := hH_lt hb; omega)]
            cases hq : hH (gS σ) w D k with
            | none =>
              rw [if_pos rfl, qb_M_quarrel_116, zI_of]
              exact fin 0 (by rw [hq]; rfl)
            | some c =>
              rw [if_neg (by simp), zI_of]
              exact fin 1 (by rw [hq]; rfl)
        rw [qb_M_quarrel_64, if_neg (by rw [zI_of, zI_le (by omega)]; omega), r1, qbV_some, zI_of]
        exact L m 0 μ2 (by omega) h2 r2.r.md r3 r4 (fun x hx => by rw [r2.1.1 _ (by unfold isQ; simp)]; exact (hf x hx).2)
      have L1 : ∀ k c μ1, c + k = 84 → MI μ1 σ → Fr isMd μ μ1 → (∀ d, d < c → μ1.1 (49, 0, 0) d = zI 0) → ∃ μ2, qx (d + 29) qc_M_quarrel 40 [some (qR (24, 0, 0)), some (qI (zI (n : Nat))), some (qI (zI z2)), none, some (qI (zI (c : Nat))), none, none] [] μ1 = qx (d + 29) qc_M_quarrel 61 [some (qR (24, 0, 0)), some (qI (zI (n : Nat))), some (qI (zI z2)), none, none, none, none] [] μ2 ∧ MI μ2 σ ∧ Fr isMd μ μ2 ∧ ∀ d, d < 84 → μ2.1 (49, 0, 0) d = zI 0 := by
        intro k
        induction k with
        | zero =>
          intro c μ1 hc h fr hv
          rw [qb_M_quarrel_40]
          simp (disch := omega) only [zI_of, zI_0, zI_1, zI_add, zI_sub, zI_mul, zI_neg, zI_lt, zI_le, zI_eq, zI_rem, zI_oob, zI_ixN, zI_ix, zI_ite, zI10, zI01, Int.toNat_natCast, cond_false, cond_true, q01_0, q01_1, q01_0z, q01_1z, qB_if, qB_ifz, qB_ret, qB_retz, qbI_some, qbV_some, qbL_some, qbR_some, qbN_some, qbN_none, true_or, or_true, false_or, or_false, if_true, if_false, Int.reduceEq, Int.reduceLT, Int.reduceLE, Int.reduceNeg]
          rw [if_pos (by omega)]
          exact ⟨μ1, rfl, h, fr, fun x hx => hv x (by omega)⟩
        | succ k ih =>
          intro c μ1 hc h fr hv
          have w1 := wr c μ1 (zI 0) h
          rw [qb_M_quarrel_40]
          simp (disch := omega) only [zI_of, zI_0, zI_1, zI_add, zI_sub, zI_mul, zI_neg, zI_lt, zI_le, zI_eq, zI_rem, zI_oob, zI_ixN, zI_ix, zI_ite, zI10, zI01, Int.toNat_natCast, cond_false, cond_true, q01_0, q01_1, q01_0z, q01_1z, qB_if, qB_ifz, qB_ret, qB_retz, qbI_some, qbV_some, qbL_some, qbR_some, qbN_some, qbN_none, true_or, or_true, false_or, or_false, if_true, if_false, Int.reduceEq, Int.reduceLT, Int.reduceLE, Int.reduceNeg]
          rw [if_neg (by omega)]
          exact ih (c + 1) _ (by omega) w1.1 (fr.tr w1.2) fun x hx => by
            rw [qsi_get]
            by_cases e : x = c
            · subst e; rw [if_pos ⟨rfl, rfl⟩]
            · rw [if_neg (by simp [e])]; exact hv x (by omega)
      obtain ⟨μ1, x1, x2, x3, x4⟩ := L1 84 0 μ (by omega) h Fr.rf (fun x hx => absurd hx (by omega))
      obtain ⟨μ2, y1, y2, y3, y4⟩ := L2 0 (fun _ => 0) μ1 (by decide) x2 (fun x hx => ⟨by omega, x4 x hx⟩)
      have hq0 : ∀ x, hc (hH (gS σ) 0 (nD (gS σ) 0 (aP (gS σ) 0 0))) (nD (gS σ) 0 (aP (gS σ) 0 0)) x (nM (gS σ) 0 (aP (gS σ) 0 0) n) = if hOn (hH (gS σ) 0 (nD (gS σ) 0 (aP (gS σ) 0 0))) (nD (gS σ) 0 (aP (gS σ) 0 0)) (nM (gS σ) 0 (aP (gS σ) 0 0) n) x = true then 1 else 0 := fun x => hc_on (nD_up _ _ _)
      have hq1 : ∀ x, hc (hH (gS σ) 1 (nD (gS σ) 1 (aP (gS σ) 1 0))) (nD (gS σ) 1 (aP (gS σ) 1 0)) x (nM (gS σ) 1 (aP (gS σ) 1 0) n) = if hOn (hH (gS σ) 1 (nD (gS σ) 1 (aP (gS σ) 1 0))) (nD (gS σ) 1 (aP (gS σ) 1 0)) (nM (gS σ) 1 (aP (gS σ) 1 0) n) x = true then 1 else 0 := fun x => hc_on (nD_up _ _ _)
      obtain ⟨μ3, w1, w2, w3, w4⟩ := L2 1 (fun x => 0 + hc (hH (gS σ) 0 (nD (gS σ) 0 (aP (gS σ) 0 0))) (nD (gS σ) 0 (aP (gS σ) 0 0)) x (nM (gS σ) 0 (aP (gS σ) 0 0) n)) μ2 (by decide) y2 (fun x hx => ⟨by rw [hq0]; split <;> omega, y4 x hx⟩)
      rw [st d μ h, hf0, qb_M_quarrel_27, if_pos zI0, qb_M_quarrel_37, zI_of, show zI (0 : Int) = zI ((0 : Nat) : Int) from rfl, x1, qb_M_quarrel_61, zI_of, show zI (0 : Int) = zI ((0 : Nat) : Int) from rfl, y1, w1, qb_M_quarrel_64, if_pos (by rw [zI_of, zI_le (by omega)]; omega), qb_M_quarrel_131, zI_of, zI_of, zI_of]
      have := L3 _ μ3 (fun x hx => ⟨by rw [hq0, hq1]; split <;> split <;> omega, w4 x hx⟩) (fun x hx => by
        rw [hq0, hq1]
        unfold qu
        generalize hOn (hH (gS σ) 0 (nD (gS σ) 0 (aP (gS σ) 0 0))) (nD (gS σ) 0 (aP (gS σ) 0 0)) (nM (gS σ) 0 (aP (gS σ) 0 0) n) x = p
        generalize hOn (hH (gS σ) 1 (nD (gS σ) 1 (aP (gS σ) 1 0))) (nD (gS σ) 1 (aP (gS σ) 1 0)) (nM (gS σ) 1 (aP (gS σ) 1 0) n) x = q
        cases p <;> cases q <;> rfl) 84 (Nat.le_refl _)
      rw [Nat.sub_self, Int.sub_self] at this
      exact ⟨μ3, this, w2, x3.tr (y3.tr w3)⟩
  ·
    have hr2 : -6 ≤ fWh (fDay (gS σ) z1) z2 1 ∧ fWh (fDay (gS σ) z1) z2 1 ≤ -1 := by omega
    refine ⟨qI (zI (fWh (fDay (gS σ) z1) z2 1)), refS σ (-(fWh (fDay (gS σ) z1) z2 1)).toNat, fun d μ h => ?_, fun d μ h => ?_, ok.ref⟩
    · rw [qe_J_quarrel, qb_J_quarrel_0, c_J_faultOfDayWhat (d + 27) h.1.1 ok.1 h1 h2, qbI_some, if_neg (zI_n0 hr2)]
      obtain ⟨μ9, r1, r2, r3⟩ := c_J_refuse (d + 28) h hr2
      exact ⟨μ9, by simp only [r1, qbI_some], r2, r3⟩
    · rw [st d μ h, qb_M_quarrel_27, if_neg (zI_n0 hr2)]
      obtain ⟨μ9, r1, r2, r3⟩ := c_M_no (d + 28) h hr2
      exact ⟨μ9, by simp only [r1, qbI_some], r2, r3⟩
