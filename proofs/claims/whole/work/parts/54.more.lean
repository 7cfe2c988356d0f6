section
/-! a gift, when, delay, changed hands -/
theorem j_val (d : Nat) {j w n : Nat} {s : AS} {μ : QM} {σ : GS} (h : CI μ σ) (hj : j < 11) (hA : RA μ j s) (ok : aOK s) (hw : w < 2) (hn : aD s ≤ n) (hn2 : n ≤ 83) :
    ∃ μ1 μ2, qcall qprogs (d + 16) 129 [qR (0, 0, 0), qR (2, j, 0), qI (zI (w : Nat)), qI (zI (n : Nat))] μ = some (some (qR (5, w, 0)), μ1) ∧ qcall qprogs (d + 16) 33 [qR (5, w, 0)] μ1 = some (some (qI (zI (lV s w (aP s w 0) n : Nat))), μ2) ∧ CI μ2 σ ∧ Fr isCl μ μ2 ∧ Fr (isPl w) μ μ2 := by
  obtain ⟨μ1, Q, r1, r2, r3⟩ := c_J_prepared (d + 11) hj hA ok hw hn hn2 (h.2 w hw).1
  obtain ⟨μ2, a1, a2, -⟩ := c_Plan_value d hw r3 (fun c hc => unS_n hc)
  have ci := h.pp (r2.tr a2.pl) (r3.b a2)
  exact ⟨μ1, μ2, r1, a1, ci.1, ci.2, r2.tr a2.pl⟩
theorem j_both (d : Nat) {j n : Nat} {s : AS} {μ : QM} {σ : GS} (h : CI μ σ) (hj : j < 11) (hA : RA μ j s) (ok : aOK s) (hn : aD s ≤ n) (hn2 : n ≤ 83) :
    ∃ μ', qcall qprogs (d + 17) 131 [qR (0, 0, 0), qR (2, j, 0), qI (zI (n : Nat))] μ = some (some (qI (zI (lB s n : Nat))), μ') ∧ CI μ' σ ∧ Fr isCl μ μ' ∧ Fr isPls μ μ' := by
  obtain ⟨μ', Q0, Q1, q1, q2, q3, q4, -⟩ := c_J_valueOfBoth d hj hA ok hn hn2 (h.2 0 (by decide)).1 (h.2 1 (by decide)).1
  have fx : Fr isX μ μ' := q2.mono fun a ha => Or.inl ha
  refine ⟨μ', q1, ⟨h.1.x fx, fun p hp => ?_⟩, fx.mono isX.cl, q2⟩
  rcases (by omega : p = 0 ∨ p = 1) with rfl | rfl
  · exact ⟨q3.2.1, _, _, q3.1⟩
  · exact ⟨q4.2.1, _, _, q4.1⟩
/-- the first of the most, more than a given one -/
def scn (v : Nat → Nat) (o m0 : Nat) : Nat → Int × Nat
  | 0 => (-9, m0)
  | k + 1 => if (scn v o m0 k).2 < v k then ((o + k : Nat), v k) else scn v o m0 k
theorem scn_s (v : Nat → Nat) (o m0 k : Nat) : scn v o m0 (k + 1) = if (scn v o m0 k).2 < v k then (((o + k : Nat) : Int), v k) else scn v o m0 k := rfl
theorem scn_cut {v : Nat → Nat} {o m0 N : Nat} (h : ∀ k, N ≤ k → v k = 0) : ∀ k, scn v o m0 (N + k) = scn v o m0 N
  | 0 => rfl
  | k + 1 => by
    show scn v o m0 (N + k + 1) = _
    rw [scn_s, h (N + k) (by omega), if_neg (by omega), scn_cut h k]
theorem scn_le {v : Nat → Nat} {o m0 M : Nat} (h0 : m0 ≤ M) (h : ∀ k, v k ≤ M) : ∀ k, (scn v o m0 k).2 ≤ M
  | 0 => h0
  | k + 1 => by
    rw [scn_s]
    split
    · exact h k
    · exact scn_le h0 h k
/-- with one cause more -/
def v1m (s : AS) (w k f x n : Nat) : Nat := if aN s < 12 then lV (addC s k f w x) w (aP s w 0) n else 0
theorem v1m_le {s : AS} (ok : aOK s) {w k f x n : Nat} (hk : k ≤ 5) (hf : f ≤ 9) (hw : w < 2) (hx : x ≤ 83) (hn2 : n ≤ 83) : v1m s w k f x n ≤ 12348 := by
  unfold v1m
  split
  · rename_i h; exact lV_le (addC_ok ok h hk hf hw hx) hn2
  · omega
theorem c_J_valueWithOneMore (d : Nat) {w k f x n : Nat} {μ : QM} {σ : GS} (h : CI μ σ) (ok : GOK σ) (hk : k ≤ 5) (hf : f ≤ 9) (hw : w < 2) (hx : x ≤ 83) (hn : aD (gS σ) ≤ n) (hn2 : n ≤ 83) :
    ∃ μ', qcall qprogs (d + 17) 135 [qR (0, 0, 0), qI (zI (w : Nat)), qI (zI (k : Nat)), qI (zI (f : Nat)), qI (zI (x : Nat)), qI (zI (n : Nat))] μ = some (some (qI (zI (v1m (gS σ) w k f x n : Nat))), μ') ∧ CI μ' σ ∧ Fr isCl μ μ' := by
  have n12 := ok.1.2.1
  unfold v1m
  by_cases q : aN (gS σ) < 12
  · obtain ⟨μ1, r1, r2, r3, r4⟩ := j_mind (d + 14) h ok
    obtain ⟨μ2, q1, q2, q3⟩ := c_Affair_bring (d + 13) (j := 1) (k := k) (f := f) (w := w) (x := x) (by decide) r4 q hk hf
    have ci := r2.mind q2
    obtain ⟨μ3, μ4, t1, t2, t3, t4, -⟩ := j_val d ci.1 (show 1 < 11 by decide) q3 (addC_ok ok.1 q hk hf hw hx) hw hn hn2
    refine ⟨μ4, ?_, t3, r3.tr (ci.2.tr t4)⟩
    rw [qe_J_valueWithOneMore, qb_J_valueWithOneMore_0, h.1.1.cnt, zI_of, if_pos (by rw [zI_lt (by omega)]; omega), qb_J_valueWithOneMore_14, r1, qbV_some, q1, qbV_some, t1, qbR_some (qd5 hw), t2, qbI_some, if_pos q]
    rfl
  · refine ⟨μ, ?_, h, Fr.rf⟩
    rw [qe_J_valueWithOneMore, qb_J_valueWithOneMore_0, h.1.1.cnt]
    simp only [zI_of]
    rw [if_neg (by rw [zI_lt (by omega)]; omega), if_neg q]
    rfl
theorem c_M_laidWith (d : Nat) {w k f x n : Nat} {s : AS} {μ : QM} (h : RM μ s) (ok : aOK s) (hN : aN s < 12) (hk : k ≤ 5) (hf : f ≤ 9) (hw : w < 2) (hx : x ≤ 83) (hn : aD s ≤ n) (hn2 : n ≤ 83) :
    ∃ μ', qcall qprogs (d + 7) 236 [qR (24, 0, 0), qI (zI (w : Nat)), qI (zI (k : Nat)), qI (zI (f : Nat)), qI (zI (x : Nat)), qI (zI (n : Nat))] μ = some (some (qI (zI (v1m s w k f x n : Nat))), μ') ∧ RM μ' s ∧ FrR μ μ' := by
  obtain ⟨μ1, r1, r2, r3⟩ := c_M_adds (d + 5) (k := k) (f := f) (w := w) (x := x) h hN
  obtain ⟨μ2, q1, q2, -⟩ := c_M_laidValue d (w := w) r3 (addC_ok ok hN hk hf hw hx) hw hn hn2
  have hR := r3.q q2
  refine ⟨qsi μ2 (24, 0, 0) 11 (zI (aN s : Nat)), ?_, ?_, (r2.r.tr q2.r).tr (FrS.fld (by decide)).r⟩
  · unfold v1m
    rw [qe_M_laidWith, qb_M_laidWith_0, r1, qbV_some, q1, qbI_some, hR.cnt, zI_of, zI_sub, if_pos hN, show ((aN (addC s k f w x) : Nat) : Int) - 1 = (aN s : Nat) by show ((aN s + 1 : Nat) : Int) - 1 = _; omega]
    rfl
  · refine ⟨by rw [qsi_get, if_neg (by simp)]; exact hR.day, qsi_self _ _ _ _, fun w' j hw' hj => by rw [qsi_ne (by simp; omega)]; exact hR.p j hw' hj, fun c j hc hj => ?_⟩
    rw [qsi_ne (by simp; omega), hR.c j (show c < aN s + 1 by omega) hj]
    refine zI_congr ?_
    show ((if c = aN s then _ else aC s c j : Nat) : Int) = _
    rw [if_neg (by omega)]
def fGf (s : AS) (z1 zk z2 z3 : Int) : Int := if z1 = 0 ∨ z1 = 1 then (if 0 ≤ zk ∧ zk ≤ 5 then (if z2 < 0 ∨ z3 < aD s then -4 else if 9 < z2 ∨ 83 < z3 then -6 else 0) else -2) else -1
theorem fGf_r (s : AS) (z1 zk z2 z3 : Int) : fGf s z1 zk z2 z3 = 0 ∨ (-6 ≤ fGf s z1 zk z2 z3 ∧ fGf s z1 zk z2 z3 ≤ -1) := by
  unfold fGf
  split
  · split
    · split
      · omega
      · split <;> omega
    · omega
  · omega
theorem fGf_0 {s : AS} {z1 zk z2 z3 : Int} (h : fGf s z1 zk z2 z3 = 0) : (∃ w : Nat, z1 = w ∧ w < 2) ∧ (∃ k : Nat, zk = k ∧ k ≤ 5) ∧ (∃ f : Nat, z2 = f ∧ f ≤ 9) ∧ ∃ n : Nat, z3 = n ∧ aD s ≤ n ∧ n ≤ 83 := by
  unfold fGf at h
  split at h
  · split at h
    · split at h
      · omega
      · split at h
        · omega
        · exact ⟨⟨z1.toNat, by omega, by omega⟩, ⟨zk.toNat, by omega, by omega⟩, ⟨z2.toNat, by omega, by omega⟩, z3.toNat, by omega, by omega, by omega⟩
    · omega
  · omega
theorem c_M_notGift (d : Nat) {z1 zk z2 z3 : Int} {s : AS} {μ : QM} (h : RM μ s) (ok : aOK s) (h1 : iB z1) (hk : iB zk) (h2 : iB z2) (h3 : iB z3) : qcall qprogs (d + 2) 235 [qR (24, 0, 0), qI (zI z1), qI (zI zk), qI (zI z2), qI (zI z3)] μ = some (some (qI (zI (fGf s z1 zk z2 z3))), μ) := by
  have b1 := hk.1
  have b2 := hk.2
  have b3 := h2.1
  have b4 := h2.2
  have b5 := h3.1
  have b6 := h3.2
  have bD := ok.1
  rw [qe_M_notGift, qb_M_notGift_0, c_M_isOne d h1, qbI_some]
  unfold fGf
  by_cases e : z1 = 0 ∨ z1 = 1
  · rw [decide_eq_true e, if_neg (by decide), if_pos e, qb_M_notGift_9]
    simp only [zI_of]
    rw [c_M_isIn d (by omega), qbI_some]
    by_cases e2 : 0 ≤ zk ∧ zk ≤ 5
    · rw [show (decide ((0 : Int) ≤ zk) && decide (zk ≤ 5)) = true by simp [e2], if_neg (by decide), if_pos e2, qb_M_notGift_21, h.day]
      have q34 : qx (d + 1) qc_M_notGift 34 [none, none, none, none, none] [] μ = some (some (qI (zI (-4))), μ) := by rw [qb_M_notGift_34, qb_M_notGift_58, zI_of]
      have q52 : qx (d + 1) qc_M_notGift 52 [none, none, none, none, none] [] μ = some (some (qI (zI (-6))), μ) := by rw [qb_M_notGift_52, qb_M_notGift_58, zI_of]
      have q57 : qx (d + 1) qc_M_notGift 57 [none, none, none, none, none] [] μ = some (some (qI (zI 0)), μ) := by rw [qb_M_notGift_57, qb_M_notGift_58, zI_of]
      by_cases a1 : z2 < 0
      · rw [if_pos (by rw [zI_0, zI_lt (by omega)]; exact a1), if_pos (Or.inl a1), q34]
      · rw [if_neg (by rw [zI_0, zI_lt (by omega)]; exact a1)]
        by_cases a2 : z3 < aD s
        · rw [if_neg (by rw [zI_le (by omega)]; omega), if_pos (Or.inr a2), q34]
        · rw [if_pos (by rw [zI_le (by omega)]; omega), if_neg (show ¬ (z2 < 0 ∨ z3 < aD s) by omega), qb_M_notGift_39]
          simp only [zI_of]
          by_cases a3 : 9 < z2
          · rw [if_pos (by rw [zI_lt (by omega)]; exact a3), if_pos (Or.inl a3), q52]
          · rw [if_neg (by rw [zI_lt (by omega)]; exact a3)]
            by_cases a4 : 83 < z3
            · rw [if_neg (by rw [zI_le (by omega)]; omega), if_pos (Or.inr a4), q52]
            · rw [if_pos (by rw [zI_le (by omega)]; omega), if_neg (show ¬ (9 < z2 ∨ 83 < z3) by omega), q57]
    · rw [show (decide ((0 : Int) ≤ zk) && decide (zk ≤ 5)) = false by rw [← Bool.decide_and]; exact decide_eq_false e2, if_pos (by decide), if_neg e2]
  · rw [decide_eq_false e, if_pos (by decide), if_neg e, zI_of]
theorem op_gift {σ : GS} (ok : GOK σ) {z1 z2 z3 : Int} (h1 : iB z1) (h2 : iB z2) (h3 : iB z3) : OP 90 237 [qI (zI z1), qI (zI z2), qI (zI z3)] σ := by
  have b3 := h2.1
  have b4 := h2.2
  have b5 := h3.1
  have b6 := h3.2
  have bD := ok.1.1
  have n12 := ok.1.2.1
  have hr := fGf_r (gS σ) z1 0 z2 z3
  have i0 : iB 0 := by unfold iB; omega
  by_cases hf : fGf (gS σ) z1 0 z2 z3 = 0
  · have hf0 := hf
    obtain ⟨⟨w, rfl, hw⟩, -, ⟨f, rfl, hf9⟩, ⟨n, rfl, hn, hn2⟩⟩ := fGf_0 hf
    have hone : ((w : Int) = 0 ∨ (w : Int) = 1) := by omega
    have lv := lV_le ok.1 (w := w) (wd := aP (gS σ) w 0) hn2
    have vle : ∀ k, (scn (fun k => v1m (gS σ) w (min k 5) f (aD (gS σ)) n) 0 (lV (gS σ) w (aP (gS σ) w 0) n) k).2 ≤ 12348 := scn_le lv (fun k => v1m_le ok.1 (by omega) hf9 hw bD hn2)
    refine ⟨qI (zI (scn (fun k => v1m (gS σ) w (min k 5) f (aD (gS σ)) n) 0 (lV (gS σ) w (aP (gS σ) w 0) n) 6).1), σ, fun d μ h => ?_, fun d μ h => ?_, ok⟩
    · have L : ∀ r k (μ1 : QM), k + r = 6 → CI μ1 σ → ∃ μ2, qx (d + 29) qc_J_gift 76 [some (qR (0, 0, 0)), some (qI (zI (w : Nat))), some (qI (zI (f : Nat))), some (qI (zI (n : Nat))), some (qI (zI ((scn (fun k => v1m (gS σ) w (min k 5) f (aD (gS σ)) n) 0 (lV (gS σ) w (aP (gS σ) w 0) n) k).2 : Nat))), some (qI (zI (scn (fun k => v1m (gS σ) w (min k 5) f (aD (gS σ)) n) 0 (lV (gS σ) w (aP (gS σ) w 0) n) k).1)), some (qI (zI (k : Nat))), none] [] μ1 = some (some (qI (zI (scn (fun k => v1m (gS σ) w (min k 5) f (aD (gS σ)) n) 0 (lV (gS σ) w (aP (gS σ) w 0) n) 6).1)), μ2) ∧ CI μ2 σ ∧ Fr isCl μ1 μ2 := by
        intro r
        induction r with
        | zero =>
          intro k μ1 hk h
          rw [qb_J_gift_76, zI_of, if_pos (by rw [zI_le (by omega)]; omega), qb_J_gift_122, show k = 6 by omega]
          exact ⟨μ1, rfl, h, Fr.rf⟩
        | succ r ih =>
          intro k μ1 hk h
          obtain ⟨μ2, r1, r2, r3⟩ := c_J_valueWithOneMore (d + 12) (k := k) (f := f) (x := aD (gS σ)) h ok (by omega) hf9 hw bD hn hn2
          obtain ⟨μ3, x1, x2, x3⟩ := ih (k + 1) μ2 (by omega) r2
          have vk := vle k
          have vv := v1m_le ok.1 (k := k) (f := f) (x := aD (gS σ)) (w := w) (by omega) hf9 hw bD hn2
          rw [scn_s, show min k 5 = k by omega, Nat.zero_add] at x1
          refine ⟨μ3, ?_, x2, r3.tr x3⟩
          rw [qb_J_gift_76, zI_of, if_neg (by rw [zI_le (by omega)]; omega), h.1.1.day, r1, qbI_some]
          by_cases e : (scn (fun k => v1m (gS σ) w (min k 5) f (aD (gS σ)) n) 0 (lV (gS σ) w (aP (gS σ) w 0) n) k).2 < v1m (gS σ) w k f (aD (gS σ)) n
          · rw [if_pos e] at x1
            rw [if_neg (by rw [zI_le (by omega)]; omega), qb_J_gift_116, zI_of, zI_add]
            exact x1
          · rw [if_neg e] at x1
            rw [if_pos (by rw [zI_le (by omega)]; omega), qb_J_gift_116, zI_of, zI_add]
            exact x1
      obtain ⟨μ1, μ2, t1, t2, t3, t4, -⟩ := j_val (d + 13) h (show 0 < 11 by decide) h.1.1 ok.1 hw hn hn2
      obtain ⟨μ3, x1, x2, x3⟩ := L 6 0 μ2 (by decide) t3
      refine ⟨μ3, ?_, x2, t4.tr x3⟩
      rw [qe_J_gift, qb_J_gift_0, c_J_isNobody (d + 28) h1, qbI_some, decide_eq_true hone, if_pos (by decide), qb_J_gift_13, h.1.1.day, if_neg (by rw [zI_0, zI_lt (by omega)]; omega), if_pos (by rw [zI_le (by omega)]; omega), qb_J_gift_35]
      simp only [zI_of]
      rw [if_neg (by rw [zI_lt (by omega)]; omega), if_pos (by rw [zI_le (by omega)]; omega), qb_J_gift_54, t1, qbR_some (qd5 hw), t2, qbI_some, zI_of, zI_of]
      exact x1
    · have L : ∀ r k (μ1 : QM), k + r = 6 → MI μ1 σ → ∃ μ2, qx (d + 29) qc_M_gift 37 [some (qR (24, 0, 0)), some (qI (zI (w : Nat))), some (qI (zI (f : Nat))), some (qI (zI (n : Nat))), none, some (qI (zI ((scn (fun k => v1m (gS σ) w (min k 5) f (aD (gS σ)) n) 0 (lV (gS σ) w (aP (gS σ) w 0) n) k).2 : Nat))), some (qI (zI (scn (fun k => v1m (gS σ) w (min k 5) f (aD (gS σ)) n) 0 (lV (gS σ) w (aP (gS σ) w 0) n) k).1)), some (qI (zI (k : Nat))), none] [] μ1 = some (some (qI (zI (scn (fun k => v1m (gS σ) w (min k 5) f (aD (gS σ)) n) 0 (lV (gS σ) w (aP (gS σ) w 0) n) 6).1)), μ2) ∧ MI μ2 σ ∧ Fr isMd μ1 μ2 := by
        intro r
        induction r with
        | zero =>
          intro k μ1 hk h
          rw [qb_M_gift_37, zI_of, if_pos (by rw [zI_le (by omega)]; omega), qb_M_gift_92, show k = 6 by omega]
          exact ⟨μ1, rfl, h, Fr.rf⟩
        | succ r ih =>
          intro k μ1 hk h
          by_cases q : aN (gS σ) < 12
          · obtain ⟨μ2, r1, r2, r3⟩ := c_M_laidWith (d + 22) (k := k) (f := f) (x := aD (gS σ)) h.1 ok.1 q (by omega) hf9 hw bD hn hn2
            have m2 := h.rr ok r3 r2
            obtain ⟨μ3, x1, x2, x3⟩ := ih (k + 1) μ2 (by omega) m2.1
            have vk := vle k
            have vv := v1m_le ok.1 (k := k) (f := f) (x := aD (gS σ)) (w := w) (by omega) hf9 hw bD hn2
            rw [scn_s, show min k 5 = k by omega, Nat.zero_add] at x1
            refine ⟨μ3, ?_, x2, m2.2.tr x3⟩
            rw [qb_M_gift_37, h.1.cnt, h.1.day]
            simp only [zI_of]
            rw [if_neg (by rw [zI_le (by omega)]; omega), if_neg (by rw [zI_le (by omega)]; omega), r1, qbI_some]
            by_cases e : (scn (fun k => v1m (gS σ) w (min k 5) f (aD (gS σ)) n) 0 (lV (gS σ) w (aP (gS σ) w 0) n) k).2 < v1m (gS σ) w k f (aD (gS σ)) n
            · rw [if_pos e] at x1
              rw [if_pos (by rw [zI_lt (by omega)]; omega), qb_M_gift_78, qb_M_gift_86, zI_of, zI_add]
              exact x1
            · rw [if_neg e] at x1
              rw [if_neg (by rw [zI_lt (by omega)]; omega), qb_M_gift_86, zI_of, zI_add]
              exact x1
          · have z : ∀ i, k ≤ i → (fun k => v1m (gS σ) w (min k 5) f (aD (gS σ)) n) i = 0 := fun i _ => if_neg q
            refine ⟨μ1, ?_, h, Fr.rf⟩
            rw [qb_M_gift_37, h.1.cnt]
            simp only [zI_of]
            rw [if_neg (by rw [zI_le (by omega)]; omega), if_pos (by rw [zI_le (by omega)]; omega), qb_M_gift_92, ← scn_cut z (6 - k), show k + (6 - k) = 6 by omega]
      obtain ⟨μ1, t1, t2, -⟩ := c_M_laidValue (d + 23) h.1 ok.1 hw hn hn2
      have m1 := h.q ok t2
      obtain ⟨μ3, x1, x2, x3⟩ := L 6 0 μ1 (by decide) m1
      refine ⟨μ3, ?_, x2, t2.r.md.tr x3⟩
      rw [qe_M_gift, qb_M_gift_0, zI_of, c_M_notGift (d + 27) h.1 ok.1 h1 i0 h2 h3, qbI_some, hf, if_pos zI0, qb_M_gift_22, t1, qbI_some, zI_of, zI_of]
      exact x1
  · have hr2 : -6 ≤ fGf (gS σ) z1 0 z2 z3 ∧ fGf (gS σ) z1 0 z2 z3 ≤ -1 := by omega
    refine ⟨qI (zI (fGf (gS σ) z1 0 z2 z3)), refS σ (-(fGf (gS σ) z1 0 z2 z3)).toNat, fun d μ h => ?_, fun d μ h => ?_, ok.ref⟩
    · have e : qcall qprogs (d + 30) 90 [qR (0, 0, 0), qI (zI z1), qI (zI z2), qI (zI z3)] μ = qbI (qcall qprogs (d + 29) 104 [qR (0, 0, 0), qI (zI (fGf (gS σ) z1 0 z2 z3))] μ) (fun x2 μ1 => some (some (qI x2), μ1)) := by
        rw [qe_J_gift, qb_J_gift_0, c_J_isNobody (d + 28) h1, qbI_some]
        unfold fGf at hf ⊢
        by_cases e : z1 = 0 ∨ z1 = 1
        · rw [if_pos e, if_pos (show (0 : Int) ≤ 0 ∧ (0 : Int) ≤ 5 by decide)] at hf ⊢
          rw [decide_eq_true e, if_pos (by decide), qb_J_gift_13, h.1.1.day]
          by_cases a1 : z2 < 0
          · rw [if_pos (by rw [zI_0, zI_lt (by omega)]; exact a1), if_pos (Or.inl a1), qb_J_gift_28, zI_of]
          · rw [if_neg (by rw [zI_0, zI_lt (by omega)]; exact a1)]
            by_cases a2 : z3 < aD (gS σ)
            · rw [if_neg (by rw [zI_le (by omega)]; omega), if_pos (Or.inr a2), qb_J_gift_28, zI_of]
            · rw [if_neg (show ¬ (z2 < 0 ∨ z3 < aD (gS σ)) by omega)] at hf
              rw [if_pos (by rw [zI_le (by omega)]; omega), if_neg (show ¬ (z2 < 0 ∨ z3 < aD (gS σ)) by omega), qb_J_gift_35]
              simp only [zI_of]
              by_cases a3 : 9 < z2
              · rw [if_pos (by rw [zI_lt (by omega)]; exact a3), if_pos (Or.inl a3), qb_J_gift_47, zI_of]
              · rw [if_neg (by rw [zI_lt (by omega)]; exact a3)]
                by_cases a4 : 83 < z3
                · rw [if_neg (by rw [zI_le (by omega)]; omega), if_pos (Or.inr a4), qb_J_gift_47, zI_of]
                · rw [if_neg (by omega)] at hf
                  exact absurd rfl hf
        · rw [decide_eq_false e, if_neg (by decide), if_neg e, zI_of]
      rw [e]
      exact j_ref1 (d := d + 28) h hr2
    · rw [qe_M_gift, qb_M_gift_0, zI_of, c_M_notGift (d + 27) h.1 ok.1 h1 i0 h2 h3, qbI_some, if_neg (zI_n0 hr2)]
      exact m_ref1 (d := d + 28) h hr2
theorem op_when {σ : GS} (ok : GOK σ) {z1 zk z2 z3 : Int} (h1 : iB z1) (hk : iB zk) (h2 : iB z2) (h3 : iB z3) : OP 91 238 [qI (zI z1), qI (zI zk), qI (zI z2), qI (zI z3)] σ := by
  have b1 := hk.1
  have b2 := hk.2
  have b3 := h2.1
  have b4 := h2.2
  have b5 := h3.1
  have b6 := h3.2
  have bD := ok.1.1
  have n12 := ok.1.2.1
  have hr := fGf_r (gS σ) z1 zk z2 z3
  by_cases hf : fGf (gS σ) z1 zk z2 z3 = 0
  · have hf0 := hf
    obtain ⟨⟨w, rfl, hw⟩, ⟨kd, rfl, hkd⟩, ⟨f, rfl, hf9⟩, ⟨n, rfl, hn, hn2⟩⟩ := fGf_0 hf
    have hone : ((w : Int) = 0 ∨ (w : Int) = 1) := by omega
    have hkk : (0 : Int) ≤ (kd : Int) ∧ (kd : Int) ≤ 5 := by omega
    have lv := lV_le ok.1 (w := w) (wd := aP (gS σ) w 0) hn2
    have vle : ∀ k, (scn (fun k => v1m (gS σ) w kd f (min (aD (gS σ) + k) 83) n) (aD (gS σ)) (lV (gS σ) w (aP (gS σ) w 0) n) k).2 ≤ 12348 := scn_le lv (fun k => v1m_le ok.1 hkd hf9 hw (by omega) hn2)
    refine ⟨qI (zI (scn (fun k => v1m (gS σ) w kd f (min (aD (gS σ) + k) 83) n) (aD (gS σ)) (lV (gS σ) w (aP (gS σ) w 0) n) (n + 1 - aD (gS σ))).1), σ, fun d μ h => ?_, fun d μ h => ?_, ok⟩
    · have L : ∀ r k (μ1 : QM), aD (gS σ) + k + r = n + 1 → CI μ1 σ → ∃ μ2, qx (d + 29) qc_J_when 99 [some (qR (0, 0, 0)), some (qI (zI (w : Nat))), some (qI (zI (kd : Nat))), some (qI (zI (f : Nat))), some (qI (zI (n : Nat))), some (qI (zI ((scn (fun k => v1m (gS σ) w kd f (min (aD (gS σ) + k) 83) n) (aD (gS σ)) (lV (gS σ) w (aP (gS σ) w 0) n) k).2 : Nat))), some (qI (zI (scn (fun k => v1m (gS σ) w kd f (min (aD (gS σ) + k) 83) n) (aD (gS σ)) (lV (gS σ) w (aP (gS σ) w 0) n) k).1)), some (qI (zI ((aD (gS σ) + k : Nat) : Int))), none] [] μ1 = some (some (qI (zI (scn (fun k => v1m (gS σ) w kd f (min (aD (gS σ) + k) 83) n) (aD (gS σ)) (lV (gS σ) w (aP (gS σ) w 0) n) (n + 1 - aD (gS σ))).1)), μ2) ∧ CI μ2 σ ∧ Fr isCl μ1 μ2 := by
        intro r
        induction r with
        | zero =>
          intro k μ1 hk h
          rw [qb_J_when_99, if_pos (by rw [zI_lt (by omega)]; omega), qb_J_when_140, show n + 1 - aD (gS σ) = k by omega]
          exact ⟨μ1, rfl, h, Fr.rf⟩
        | succ r ih =>
          intro k μ1 hk h
          obtain ⟨μ2, r1, r2, r3⟩ := c_J_valueWithOneMore (d + 12) (k := kd) (f := f) (x := aD (gS σ) + k) h ok hkd hf9 hw (by omega) hn hn2
          obtain ⟨μ3, x1, x2, x3⟩ := ih (k + 1) μ2 (by omega) r2
          have vk := vle k
          have vv := v1m_le ok.1 (k := kd) (f := f) (x := aD (gS σ) + k) (w := w) hkd hf9 hw (by omega) hn2
          rw [scn_s, show min (aD (gS σ) + k) 83 = aD (gS σ) + k by omega] at x1
          refine ⟨μ3, ?_, x2, r3.tr x3⟩
          rw [qb_J_when_99, if_neg (by rw [zI_lt (by omega)]; omega), r1, qbI_some]
          by_cases e : (scn (fun k => v1m (gS σ) w kd f (min (aD (gS σ) + k) 83) n) (aD (gS σ)) (lV (gS σ) w (aP (gS σ) w 0) n) k).2 < v1m (gS σ) w kd f (aD (gS σ) + k) n
          · rw [if_pos e] at x1
            rw [if_neg (by rw [zI_le (by omega)]; omega), qb_J_when_134, zI_of, zI_add]
            exact x1
          · rw [if_neg e] at x1
            rw [if_pos (by rw [zI_le (by omega)]; omega), qb_J_when_134, zI_of, zI_add]
            exact x1
      obtain ⟨μ1, μ2, t1, t2, t3, t4, -⟩ := j_val (d + 13) h (show 0 < 11 by decide) h.1.1 ok.1 hw hn hn2
      obtain ⟨μ3, x1, x2, x3⟩ := L (n + 1 - aD (gS σ)) 0 μ2 (by omega) t3
      refine ⟨μ3, ?_, x2, t4.tr x3⟩
      rw [qe_J_when, qb_J_when_0, c_J_isNobody (d + 28) h1, qbI_some, decide_eq_true hone, if_pos (by decide), qb_J_when_13, c_J_isNoKind (d + 28) hk, qbI_some, decide_eq_true hkk, if_pos (by decide), qb_J_when_27, h.1.1.day, if_neg (by rw [zI_0, zI_lt (by omega)]; omega), if_pos (by rw [zI_le (by omega)]; omega), qb_J_when_50]
      simp only [zI_of]
      rw [if_neg (by rw [zI_lt (by omega)]; omega), if_pos (by rw [zI_le (by omega)]; omega), qb_J_when_70, t1, qbR_some (qd5 hw), t2, qbI_some, zI_of, t3.1.1.day]
      exact x1
    · have L : ∀ r k (μ1 : QM), aD (gS σ) + k + r = n + 1 → MI μ1 σ → ∃ μ2, qx (d + 29) qc_M_when 42 [some (qR (24, 0, 0)), some (qI (zI (w : Nat))), some (qI (zI (kd : Nat))), some (qI (zI (f : Nat))), some (qI (zI (n : Nat))), none, some (qI (zI ((scn (fun k => v1m (gS σ) w kd f (min (aD (gS σ) + k) 83) n) (aD (gS σ)) (lV (gS σ) w (aP (gS σ) w 0) n) k).2 : Nat))), some (qI (zI (scn (fun k => v1m (gS σ) w kd f (min (aD (gS σ) + k) 83) n) (aD (gS σ)) (lV (gS σ) w (aP (gS σ) w 0) n) k).1)), some (qI (zI ((aD (gS σ) + k : Nat) : Int))), none] [] μ1 = some (some (qI (zI (scn (fun k => v1m (gS σ) w kd f (min (aD (gS σ) + k) 83) n) (aD (gS σ)) (lV (gS σ) w (aP (gS σ) w 0) n) (n + 1 - aD (gS σ))).1)), μ2) ∧ MI μ2 σ ∧ Fr isMd μ1 μ2 := by
        intro r
        induction r with
        | zero =>
          intro k μ1 hk h
          rw [qb_M_when_42, if_pos (by rw [zI_lt (by omega)]; omega), qb_M_when_95, show n + 1 - aD (gS σ) = k by omega]
          exact ⟨μ1, rfl, h, Fr.rf⟩
        | succ r ih =>
          intro k μ1 hk h
          by_cases q : aN (gS σ) < 12
          · obtain ⟨μ2, r1, r2, r3⟩ := c_M_laidWith (d + 22) (k := kd) (f := f) (x := aD (gS σ) + k) h.1 ok.1 q hkd hf9 hw (by omega) hn hn2
            have m2 := h.rr ok r3 r2
            obtain ⟨μ3, x1, x2, x3⟩ := ih (k + 1) μ2 (by omega) m2.1
            have vk := vle k
            have vv := v1m_le ok.1 (k := kd) (f := f) (x := aD (gS σ) + k) (w := w) hkd hf9 hw (by omega) hn2
            rw [scn_s, show min (aD (gS σ) + k) 83 = aD (gS σ) + k by omega] at x1
            refine ⟨μ3, ?_, x2, m2.2.tr x3⟩
            rw [qb_M_when_42, h.1.cnt]
            simp only [zI_of]
            rw [if_neg (by rw [zI_lt (by omega)]; omega), if_neg (by rw [zI_le (by omega)]; omega), r1, qbI_some]
            by_cases e : (scn (fun k => v1m (gS σ) w kd f (min (aD (gS σ) + k) 83) n) (aD (gS σ)) (lV (gS σ) w (aP (gS σ) w 0) n) k).2 < v1m (gS σ) w kd f (aD (gS σ) + k) n
            · rw [if_pos e] at x1
              rw [if_pos (by rw [zI_lt (by omega)]; omega), qb_M_when_81, qb_M_when_89, zI_of, zI_add]
              exact x1
            · rw [if_neg e] at x1
              rw [if_neg (by rw [zI_lt (by omega)]; omega), qb_M_when_89, zI_of, zI_add]
              exact x1
          · have z : ∀ i, k ≤ i → (fun k => v1m (gS σ) w kd f (min (aD (gS σ) + k) 83) n) i = 0 := fun i _ => if_neg q
            refine ⟨μ1, ?_, h, Fr.rf⟩
            rw [qb_M_when_42, h.1.cnt]
            simp only [zI_of]
            rw [if_neg (by rw [zI_lt (by omega)]; omega), if_pos (by rw [zI_le (by omega)]; omega), qb_M_when_95, ← scn_cut z (n + 1 - aD (gS σ) - k), show k + (n + 1 - aD (gS σ) - k) = n + 1 - aD (gS σ) by omega]
      obtain ⟨μ1, t1, t2, -⟩ := c_M_laidValue (d + 23) h.1 ok.1 hw hn hn2
      have m1 := h.q ok t2
      obtain ⟨μ3, x1, x2, x3⟩ := L (n + 1 - aD (gS σ)) 0 μ1 (by omega) m1
      refine ⟨μ3, ?_, x2, t2.r.md.tr x3⟩
      rw [qe_M_when, qb_M_when_0, c_M_notGift (d + 27) h.1 ok.1 h1 hk h2 h3, qbI_some, hf, if_pos zI0, qb_M_when_23, t1, qbI_some, zI_of, m1.1.day]
      exact x1
  · have hr2 : -6 ≤ fGf (gS σ) z1 zk z2 z3 ∧ fGf (gS σ) z1 zk z2 z3 ≤ -1 := by omega
    refine ⟨qI (zI (fGf (gS σ) z1 zk z2 z3)), refS σ (-(fGf (gS σ) z1 zk z2 z3)).toNat, fun d μ h => ?_, fun d μ h => ?_, ok.ref⟩
    · have e : qcall qprogs (d + 30) 91 [qR (0, 0, 0), qI (zI z1), qI (zI zk), qI (zI z2), qI (zI z3)] μ = qbI (qcall qprogs (d + 29) 104 [qR (0, 0, 0), qI (zI (fGf (gS σ) z1 zk z2 z3))] μ) (fun x2 μ1 => some (some (qI x2), μ1)) := by
        rw [qe_J_when, qb_J_when_0, c_J_isNobody (d + 28) h1, qbI_some]
        unfold fGf at hf ⊢
        by_cases e : z1 = 0 ∨ z1 = 1
        · rw [if_pos e] at hf ⊢
          rw [decide_eq_true e, if_pos (by decide), qb_J_when_13, c_J_isNoKind (d + 28) hk, qbI_some]
          by_cases ek : 0 ≤ zk ∧ zk ≤ 5
          · rw [if_pos ek] at hf ⊢
            rw [decide_eq_true ek, if_pos (by decide), qb_J_when_27, h.1.1.day]
            by_cases a1 : z2 < 0
            · rw [if_pos (by rw [zI_0, zI_lt (by omega)]; exact a1), if_pos (Or.inl a1), qb_J_when_43, zI_of]
            · rw [if_neg (by rw [zI_0, zI_lt (by omega)]; exact a1)]
              by_cases a2 : z3 < aD (gS σ)
              · rw [if_neg (by rw [zI_le (by omega)]; omega), if_pos (Or.inr a2), qb_J_when_43, zI_of]
              · rw [if_neg (show ¬ (z2 < 0 ∨ z3 < aD (gS σ)) by omega)] at hf
                rw [if_pos (by rw [zI_le (by omega)]; omega), if_neg (show ¬ (z2 < 0 ∨ z3 < aD (gS σ)) by omega), qb_J_when_50]
                simp only [zI_of]
                by_cases a3 : 9 < z2
                · rw [if_pos (by rw [zI_lt (by omega)]; exact a3), if_pos (Or.inl a3), qb_J_when_63, zI_of]
                · rw [if_neg (by rw [zI_lt (by omega)]; exact a3)]
                  by_cases a4 : 83 < z3
                  · rw [if_neg (by rw [zI_le (by omega)]; omega), if_pos (Or.inr a4), qb_J_when_63, zI_of]
                  · rw [if_neg (by omega)] at hf
                    exact absurd rfl hf
          · rw [decide_eq_false ek, if_neg (by decide), if_neg ek, zI_of]
        · rw [decide_eq_false e, if_neg (by decide), if_neg e, zI_of]
      rw [e]
      exact j_ref1 (d := d + 28) h hr2
    · rw [qe_M_when, qb_M_when_0, c_M_notGift (d + 27) h.1 ok.1 h1 hk h2 h3, qbI_some, if_neg (zI_n0 hr2)]
      exact m_ref1 (d := d + 28) h hr2
end
