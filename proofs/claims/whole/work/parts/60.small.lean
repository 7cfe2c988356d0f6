section
/-! months, laws, friends, chances -/
def ltt (x : Nat) (z : Nat) : Bool := decide (x % 7 = z)
theorem c_J_weekdaysIn (d : Nat) {f m w : Nat} {μ : QM} (hf : f ≤ 1000) (hm : m ≤ 1000) (hw : w ≤ 6) : qcall qprogs (d + 1) 149 [qI (zI (f : Nat)), qI (zI (m : Nat)), qI (zI (w : Nat))] μ = some (some (qI (zI (cntB (fun i => decide ((f + i) % 7 = w)) m : Nat))), μ) := by
  have L : ∀ r i, i + r = m → qx d qc_J_weekdaysIn 5 [some (qI (zI (f : Nat))), some (qI (zI (m : Nat))), some (qI (zI (w : Nat))), some (qI (zI (cntB (fun i => decide ((f + i) % 7 = w)) i : Nat))), some (qI (zI (i : Nat)))] [] μ = some (some (qI (zI (cntB (fun i => decide ((f + i) % 7 = w)) m : Nat))), μ) := by
    intro r
    induction r with
    | zero =>
      intro i hi
      rw [qb_J_weekdaysIn_5, if_pos (by rw [zI_le (by omega)]; omega), qb_J_weekdaysIn_31, show i = m by omega]
    | succ r ih =>
      intro i hi
      have i1 := ih (i + 1) (by omega)
      rw [cntB_s] at i1
      rw [qb_J_weekdaysIn_5]
      simp only [zI_of, zI_add]
      rw [if_neg (by rw [zI_le (by omega)]; omega), if_neg (by decide +kernel), zI_rem (by omega)]
      by_cases q : (f + i) % 7 = w
      · rw [if_pos (decide_eq_true q)] at i1
        rw [if_pos (by rw [zI_eq (by omega)]; omega), qb_J_weekdaysIn_25, zI_of, zI_add]
        exact i1
      · rw [if_neg (fun z => q (of_decide_eq_true z))] at i1
        rw [if_neg (by rw [zI_eq (by omega)]; omega), qb_J_weekdaysIn_25, zI_of, zI_add]
        exact i1
  rw [qe_J_weekdaysIn, qb_J_weekdaysIn_0]
  simp only [zI_of]
  exact L m 0 (by omega)
theorem c_M_weekdaysIn (d : Nat) {f m w : Nat} {μ : QM} (hf : f ≤ 1000) (hm : m ≤ 1000) (hw : w ≤ 6) : qcall qprogs (d + 1) 217 [qI (zI (w : Nat)), qI (zI (f : Nat)), qI (zI (m : Nat))] μ = some (some (qI (zI (cntB (fun i => decide ((f + i) % 7 = w)) m : Nat))), μ) := by
  have L : ∀ r i, i + r = m → qx d qc_M_weekdaysIn 5 [some (qI (zI (w : Nat))), some (qI (zI (f : Nat))), some (qI (zI (m : Nat))), some (qI (zI (cntB (fun i => decide ((f + i) % 7 = w)) i : Nat))), some (qI (zI ((f + i : Nat) : Int)))] [] μ = some (some (qI (zI (cntB (fun i => decide ((f + i) % 7 = w)) m : Nat))), μ) := by
    intro r
    induction r with
    | zero =>
      intro i hi
      rw [qb_M_weekdaysIn_5, zI_addN, if_pos (by rw [zI_le (by omega)]; omega), qb_M_weekdaysIn_36, show i = m by omega]
    | succ r ih =>
      intro i hi
      have i1 := ih (i + 1) (by omega)
      rw [cntB_s] at i1
      rw [qb_M_weekdaysIn_5, zI_addN]
      simp only [zI_of]
      rw [if_neg (by rw [zI_le (by omega)]; omega), if_neg (by decide +kernel), zI_rem (by omega)]
      by_cases q : (f + i) % 7 = w
      · rw [if_pos (decide_eq_true q)] at i1
        rw [if_pos (by rw [zI_eq (by omega)]; omega), qb_M_weekdaysIn_28, zI_of, zI_add, zI_add]
        exact i1
      · rw [if_neg (fun z => q (of_decide_eq_true z))] at i1
        rw [if_neg (by rw [zI_eq (by omega)]; omega), qb_M_weekdaysIn_27, qb_M_weekdaysIn_28, zI_of, zI_of, zI_add, zI_add, Int.add_zero]
        exact i1
  rw [qe_M_weekdaysIn, qb_M_weekdaysIn_0]
  simp only [zI_of]
  exact L m 0 (by omega)
/-- months: how many with the most, the most, the first -/
def wdm (w m k : Nat) : Nat := cntB (fun i => decide ((k * m + i) % 7 = w)) m
def mnS (w m k : Nat) (o : Option (Nat × Nat × Nat)) : Option (Nat × Nat × Nat) := match o with
  | none => some (1, wdm w m k, k)
  | some (a, b, f) => if b < wdm w m k then some (1, wdm w m k, k) else if wdm w m k = b then some (a + 1, b, f) else some (a, b, f)
def mnA (o : Option (Nat × Nat × Nat)) (z : Nat) : Nat := match o with
  | none => 0
  | some (a, b, f) => if z = 0 then a else if z = 1 then b else f
theorem wdm_1 {w m k : Nat} (hw : w ≤ 6) (hm : 7 ≤ m) : 1 ≤ wdm w m k := by
  obtain ⟨i, h1, h2⟩ : ∃ i, i < 7 ∧ (k * m + i) % 7 = w := ⟨(w + 7 - k * m % 7) % 7, by omega, by omega⟩
  have h3 : cntB (fun i => decide ((k * m + i) % 7 = w)) (i + 1) ≤ wdm w m k := cntB_mono (by omega)
  rw [cntB_s, if_pos (decide_eq_true h2)] at h3
  omega
def mnB (K m : Nat) (o : Option (Nat × Nat × Nat)) : Prop := ∀ a b f, o = some (a, b, f) → a ≤ K ∧ b ≤ m ∧ f ≤ K
theorem op_months {σ : GS} (ok : GOK σ) {z1 z2 z3 : Int} (h1 : iB z1) (h2 : iB z2) (h3 : iB z3) : OP 85 218 [qI (zI z1), qI (zI z2), qI (zI z3)] σ := by
  have b1 := h1.1
  have b2 := h1.2
  have b3 := h2.1
  have b4 := h2.2
  have b5 := h3.1
  have b6 := h3.2
  by_cases hz : 0 ≤ z1 ∧ z1 ≤ 6
  · have eJ : ∀ d μ, CI μ σ → qcall qprogs (d + 30) 85 [qR (0, 0, 0), qI (zI z1), qI (zI z2), qI (zI z3)] μ = qx (d + 29) qc_J_months 13 [some (qR (0, 0, 0)), some (qI (zI z1)), some (qI (zI z2)), some (qI (zI z3)), none, none, none, none, none] [] μ := fun d μ h => by
      rw [qe_J_months, qb_J_months_0, c_J_isNoWeekday (d + 28) h1, qbI_some, decide_eq_true hz, if_pos (by decide)]
    have eM : ∀ d μ, MI μ σ → qcall qprogs (d + 30) 218 [qR (24, 0, 0), qI (zI z1), qI (zI z2), qI (zI z3)] μ = qx (d + 29) qc_M_months 22 [some (qR (24, 0, 0)), some (qI (zI z1)), some (qI (zI z2)), some (qI (zI z3)), none, none, none, none, none, none] [qI (zI (if z2 < 7 then -4 else if 31 < z2 then -6 else 0))] μ := fun d μ h => by
      rw [qe_M_months, qb_M_months_0]
      simp only [zI_of]
      rw [c_M_isIn (d + 28) (by omega), qbI_some, show (decide ((0 : Int) ≤ z1) && decide (z1 ≤ 6)) = true by simp [hz], if_neg (by decide), qb_M_months_14]
      simp only [zI_of]
      rw [c_M_bound (d + 28) (by omega), qbI_some]
    have eR : ∀ (f : Int), -6 ≤ f ∧ f ≤ -1 → ∀ d μ, MI μ σ → qcall qprogs (d + 30) 218 [qR (24, 0, 0), qI (zI z1), qI (zI z2), qI (zI z3)] μ = qx (d + 29) qc_M_months 42 [some (qR (24, 0, 0)), some (qI (zI z1)), some (qI (zI z2)), some (qI (zI z3)), some (qI (zI f)), none, none, none, none, none] [] μ → ∃ μ', qcall qprogs (d + 30) 218 [qR (24, 0, 0), qI (zI z1), qI (zI z2), qI (zI z3)] μ = some (some (qI (zI f)), μ') ∧ MI μ' (refS σ (-f).toNat) ∧ Fr isMd μ μ' := fun f hf d μ h e => by
      rw [e, qb_M_months_42, if_neg (zI_n0 hf)]
      exact m_ref1 (d := d + 28) h hf
    by_cases e1 : z2 < 7
    · refine ⟨qI (zI (-4)), refS σ 4, fun d μ h => ?_, fun d μ h => ?_, ok.ref⟩
      · rw [eJ d μ h, qb_J_months_13]
        simp only [zI_of]
        rw [if_neg (by rw [zI_le (by omega)]; omega)]
        exact j_ref1 (d := d + 28) (f := -4) h (by decide)
      · exact eR (-4) (by decide) d μ h (by rw [eM d μ h, if_pos e1, qb_M_months_22, if_neg (by decide +kernel)])
    · by_cases e2 : 31 < z2
      · refine ⟨qI (zI (-6)), refS σ 6, fun d μ h => ?_, fun d μ h => ?_, ok.ref⟩
        · rw [eJ d μ h, qb_J_months_13]
          simp only [zI_of]
          rw [if_pos (by rw [zI_le (by omega)]; omega), qb_J_months_26]
          simp only [zI_of]
          rw [if_neg (by rw [zI_le (by omega)]; omega)]
          exact j_ref1 (d := d + 28) (f := -6) h (by decide)
        · exact eR (-6) (by decide) d μ h (by rw [eM d μ h, if_neg e1, if_pos e2, qb_M_months_22, if_neg (by decide +kernel)])
      · have fJ : ∀ d μ, CI μ σ → qcall qprogs (d + 30) 85 [qR (0, 0, 0), qI (zI z1), qI (zI z2), qI (zI z3)] μ = qx (d + 29) qc_J_months 39 [some (qR (0, 0, 0)), some (qI (zI z1)), some (qI (zI z2)), some (qI (zI z3)), none, none, none, none, none] [] μ := fun d μ h => by
          rw [eJ d μ h, qb_J_months_13]
          simp only [zI_of]
          rw [if_pos (by rw [zI_le (by omega)]; omega), qb_J_months_26]
          simp only [zI_of]
          rw [if_pos (by rw [zI_le (by omega)]; omega)]
        by_cases e3 : 0 ≤ z3 ∧ z3 ≤ 2
        · obtain ⟨w, rfl, hw⟩ : ∃ k : Nat, z1 = k ∧ k ≤ 6 := ⟨z1.toNat, by omega, by omega⟩
          obtain ⟨m, rfl⟩ : ∃ k : Nat, z2 = k := ⟨z2.toNat, by omega⟩
          obtain ⟨z, rfl, hz2⟩ : ∃ k : Nat, z3 = k ∧ k ≤ 2 := ⟨z3.toNat, by omega, by omega⟩
          have hm : 7 ≤ m ∧ m ≤ 31 := by omega
          have hK : ∀ k, k < 84 / m ↔ (k + 1) * m ≤ 84 := fun k => Nat.le_div_iff_mul_le (by omega)
          have K12 : 84 / m ≤ 12 := by
            have := Nat.div_le_div_left (a := 84) hm.1 (by decide)
            omega
          have sm : ∀ k, (k + 1) * m = k * m + m := fun k => Nat.succ_mul k m
          have stB : ∀ k o, k < 84 / m → mnB k m o → mnB (k + 1) m (mnS w m k o) := fun k o hk ho => by
            have cl : wdm w m k ≤ m := cntB_le m
            cases o with
            | none => intro a b f e; cases e; exact ⟨by omega, cl, by omega⟩
            | some p =>
              obtain ⟨a, b, f⟩ := p
              obtain ⟨p1, p2, p3⟩ := ho a b f rfl
              show mnB (k + 1) m (if b < wdm w m k then some (1, wdm w m k, k) else if wdm w m k = b then some (a + 1, b, f) else some (a, b, f))
              split
              · intro a b f e; cases e; exact ⟨by omega, cl, by omega⟩
              · split
                · intro a b f e; cases e; exact ⟨by omega, p2, by omega⟩
                · intro a b f e; cases e; exact ⟨by omega, p2, by omega⟩
          refine ⟨qI (zI (mnA (fol (mnS w m) 0 (84 / m) none) z : Nat)), σ, fun d μ h => ⟨μ, ?_, h, Fr.rf⟩, fun d μ h => ⟨μ, ?_, h, Fr.rf⟩, ok⟩
          · have J : ∀ (a b f k : Nat), qx (d + 29) qc_J_months 123 [none, none, none, some (qI (zI (z : Nat))), some (qI (zI (a : Nat))), some (qI (zI (b : Nat))), some (qI (zI (f : Nat))), none, none] [] μ = some (some (qI (zI (mnA (some (a, b, f)) z : Nat))), μ) := fun a b f k => by
              rcases (by omega : z = 0 ∨ z = 1 ∨ z = 2) with rfl | rfl | rfl
              · rw [qb_J_months_123, if_pos (by decide +kernel), qb_J_months_144]; rfl
              · rw [qb_J_months_123, if_neg (by decide +kernel), qb_J_months_132, if_pos (by decide +kernel), qb_J_months_144]; rfl
              · rw [qb_J_months_123, if_neg (by decide +kernel), qb_J_months_132, if_neg (by decide +kernel), qb_J_months_142, qb_J_months_144]; rfl
            have L : ∀ r k a b f, k + r = 84 / m → mnB k m (some (a, b, f)) → qx (d + 29) qc_J_months 67 [none, some (qI (zI (w : Nat))), some (qI (zI (m : Nat))), some (qI (zI (z : Nat))), some (qI (zI (a : Nat))), some (qI (zI (b : Nat))), some (qI (zI (f : Nat))), some (qI (zI (k : Nat))), none] [] μ = some (some (qI (zI (mnA (fol (mnS w m) k r (some (a, b, f))) z : Nat))), μ) := by
              intro r
              induction r with
              | zero =>
                intro k a b f hk hB
                have n1 : ¬ (k + 1) * m ≤ 84 := fun z => absurd ((hK k).mpr z) (by omega)
                have n2 : k * m ≤ 84 := by
                  rcases Nat.eq_zero_or_pos k with q | q
                  · rw [q, Nat.zero_mul]; omega
                  · have := (hK (k - 1)).mp (by omega)
                    rw [show k - 1 + 1 = k by omega] at this
                    exact this
                rw [sm k] at n1
                rw [qb_J_months_67]
                simp only [zI_of, zI_add, zI_mul]
                rw [show ((k : Nat) : Int) + 1 = ((k + 1 : Nat) : Int) from rfl, show ((k + 1 : Nat) : Int) * (m : Nat) = (((k + 1) * m : Nat) : Int) from rfl, sm k, if_pos (by rw [zI_lt (by omega)]; omega)]
                exact J a b f k
              | succ r ih =>
                intro k a b f hk hB
                have n1 := (hK k).mp (by omega)
                have hB2 := stB k (some (a, b, f)) (by omega) hB
                obtain ⟨p1, p2, p3⟩ := hB a b f rfl
                have cl : wdm w m k ≤ m := cntB_le m
                rw [sm k] at n1
                rw [qb_J_months_67]
                simp only [zI_of, zI_add, zI_mul]
                rw [show ((k : Nat) : Int) + 1 = ((k + 1 : Nat) : Int) from rfl, show ((k + 1 : Nat) : Int) * (m : Nat) = (((k + 1) * m : Nat) : Int) from rfl, sm k, if_neg (by rw [zI_lt (by omega)]; omega), show ((k : Nat) : Int) * (m : Nat) = ((k * m : Nat) : Int) from rfl, c_J_weekdaysIn (d + 28) (by omega) (by omega) hw, qbI_some, show cntB (fun i => decide ((k * m + i) % 7 = w)) m = wdm w m k from rfl, fol_s]
                have es : mnS w m k (some (a, b, f)) = if b < wdm w m k then some (1, wdm w m k, k) else if wdm w m k = b then some (a + 1, b, f) else some (a, b, f) := rfl
                rw [es] at hB2 ⊢
                by_cases q : b < wdm w m k
                · rw [if_pos q] at hB2 ⊢
                  rw [if_neg (by rw [zI_le (by omega)]; omega), qb_J_months_107, if_pos rfl, zI_of, zI_add, qb_J_months_117, zI_of, zI_add]
                  exact ih (k + 1) 1 (wdm w m k) k (by omega) hB2
                · rw [if_neg q] at hB2 ⊢
                  rw [if_pos (by rw [zI_le (by omega)]; omega), qb_J_months_107]
                  by_cases q2 : wdm w m k = b
                  · rw [if_pos q2] at hB2 ⊢
                    rw [if_pos (by rw [q2]), zI_of, zI_add, qb_J_months_117, zI_of, zI_add]
                    exact ih (k + 1) (a + 1) b f (by omega) hB2
                  · rw [if_neg q2] at hB2 ⊢
                    rw [if_neg (by rw [zI_eq (by omega)]; omega), qb_J_months_117, zI_of, zI_add]
                    exact ih (k + 1) a b f (by omega) hB2
            have K1 : 1 ≤ 84 / m := Nat.div_pos (by omega) (by omega)
            have n1 := (hK 0).mp (by omega)
            have w1 := wdm_1 (k := 0) hw hm.1
            have cl : wdm w m 0 ≤ m := cntB_le m
            rw [Nat.zero_add, Nat.one_mul] at n1
            have i1 := L (84 / m - 1) 1 1 (wdm w m 0) 0 (by omega) (fun a b f e => by cases e; exact ⟨by omega, cl, by omega⟩)
            rw [fJ d μ h, qb_J_months_39]
            simp only [zI_of]
            rw [if_neg (by rw [zI_0, zI_lt (by omega)]; omega), if_pos (by rw [zI_le (by omega)]; omega), qb_J_months_55]
            simp only [zI_of]
            rw [qb_J_months_67]
            simp only [zI_of, zI_add, zI_mul]
            rw [Int.zero_add, Int.one_mul, Int.zero_mul, if_neg (by rw [zI_lt (by omega)]; omega)]
            have wd := c_J_weekdaysIn (d + 28) (f := 0) (m := m) (w := w) (μ := μ) (by omega) (by omega) hw
            have e0 : cntB (fun i => decide ((0 + i) % 7 = w)) m = wdm w m 0 := by unfold wdm; rw [Nat.zero_mul]
            rw [e0] at wd
            rw [show qcall qprogs (d + 29) 149 [qI (zI 0), qI (zI (m : Nat)), qI (zI (w : Nat))] μ = _ from wd, qbI_some, if_neg (by rw [zI_le (by omega)]; omega), qb_J_months_107, if_pos rfl, zI_of, zI_add, qb_J_months_117, zI_of, zI_add, show 84 / m = (84 / m - 1) + 1 by omega, fol_s]
            exact i1
          · have J : ∀ (a b f k : Nat), qx (d + 29) qc_M_months 129 [none, none, none, some (qI (zI (z : Nat))), none, some (qI (zI (b : Nat))), some (qI (zI (a : Nat))), some (qI (zI (f : Nat))), none, none] [] μ = some (some (qI (zI (mnA (some (a, b, f)) z : Nat))), μ) := fun a b f k => by
              rcases (by omega : z = 0 ∨ z = 1 ∨ z = 2) with rfl | rfl | rfl
              · rw [qb_M_months_129, if_pos (by decide +kernel), qb_M_months_150]; rfl
              · rw [qb_M_months_129, if_neg (by decide +kernel), qb_M_months_138, if_pos (by decide +kernel), qb_M_months_150]; rfl
              · rw [qb_M_months_129, if_neg (by decide +kernel), qb_M_months_138, if_neg (by decide +kernel), qb_M_months_148, qb_M_months_150]; rfl
            have L : ∀ r k a b f, k + r = 84 / m → mnB k m (some (a, b, f)) → qx (d + 29) qc_M_months 66 [none, some (qI (zI (w : Nat))), some (qI (zI (m : Nat))), some (qI (zI (z : Nat))), none, some (qI (zI (b : Nat))), some (qI (zI (a : Nat))), some (qI (zI (f : Nat))), some (qI (zI (k : Nat))), none] [] μ = some (some (qI (zI (mnA (fol (mnS w m) k r (some (a, b, f))) z : Nat))), μ) := by
              intro r
              induction r with
              | zero =>
                intro k a b f hk hB
                have n1 : ¬ (k + 1) * m ≤ 84 := fun z => absurd ((hK k).mpr z) (by omega)
                have n2 : k * m ≤ 84 := by
                  rcases Nat.eq_zero_or_pos k with q | q
                  · rw [q, Nat.zero_mul]; omega
                  · have := (hK (k - 1)).mp (by omega)
                    rw [show k - 1 + 1 = k by omega] at this
                    exact this
                rw [sm k] at n1
                rw [qb_M_months_66]
                simp only [zI_of, zI_add, zI_mul]
                rw [show ((m : Nat) : Int) * ((k : Nat) + 1) = ((k * m + m : Nat) : Int) by rw [← sm k, Nat.mul_comm]; rfl, if_pos (by rw [zI_lt (by omega)]; omega)]
                exact J a b f k
              | succ r ih =>
                intro k a b f hk hB
                have n1 := (hK k).mp (by omega)
                have hB2 := stB k (some (a, b, f)) (by omega) hB
                obtain ⟨p1, p2, p3⟩ := hB a b f rfl
                have cl : wdm w m k ≤ m := cntB_le m
                rw [sm k] at n1
                rw [qb_M_months_66]
                simp only [zI_of, zI_add, zI_mul]
                rw [show ((m : Nat) : Int) * ((k : Nat) + 1) = ((k * m + m : Nat) : Int) by rw [← sm k, Nat.mul_comm]; rfl, if_neg (by rw [zI_lt (by omega)]; omega), show ((m : Nat) : Int) * (k : Nat) = ((k * m : Nat) : Int) by rw [Nat.mul_comm]; rfl, c_M_weekdaysIn (d + 28) (by omega) (by omega) hw, qbI_some, show cntB (fun i => decide ((k * m + i) % 7 = w)) m = wdm w m k from rfl, fol_s]
                have es : mnS w m k (some (a, b, f)) = if b < wdm w m k then some (1, wdm w m k, k) else if wdm w m k = b then some (a + 1, b, f) else some (a, b, f) := rfl
                rw [es] at hB2 ⊢
                by_cases q : b < wdm w m k
                · rw [if_pos q] at hB2 ⊢
                  rw [if_neg (by rw [zI_le (by omega)]; omega), qb_M_months_106, if_pos rfl, zI_of, qb_M_months_120, zI_add, zI_of, zI_add]
                  exact ih (k + 1) 1 (wdm w m k) k (by omega) hB2
                · rw [if_neg q] at hB2 ⊢
                  rw [if_pos (by rw [zI_le (by omega)]; omega), qb_M_months_106]
                  by_cases q2 : wdm w m k = b
                  · rw [if_pos q2] at hB2 ⊢
                    rw [if_pos (by rw [q2]), zI_of, qb_M_months_120, zI_of, zI_add, zI_add]
                    exact ih (k + 1) (a + 1) b f (by omega) hB2
                  · rw [if_neg q2] at hB2 ⊢
                    rw [if_neg (by rw [zI_eq (by omega)]; omega), qb_M_months_119, zI_of, qb_M_months_120, zI_of, zI_add, zI_add, Int.add_zero]
                    exact ih (k + 1) a b f (by omega) hB2
            have K1 : 1 ≤ 84 / m := Nat.div_pos (by omega) (by omega)
            have n1 := (hK 0).mp (by omega)
            have w1 := wdm_1 (k := 0) hw hm.1
            have cl : wdm w m 0 ≤ m := cntB_le m
            rw [Nat.zero_add, Nat.one_mul] at n1
            have i1 := L (84 / m - 1) 1 1 (wdm w m 0) 0 (by omega) (fun a b f e => by cases e; exact ⟨by omega, cl, by omega⟩)
            rw [eM d μ h, if_neg e1, if_neg e2, qb_M_months_22, if_pos zI0]
            simp only [zI_of]
            rw [c_M_isIn (d + 28) (by omega), qbI_some, show (decide ((0 : Int) ≤ (z : Nat)) && decide (((z : Nat) : Int) ≤ 2)) = true by simp [e3.2], if_neg (by decide), qb_M_months_42, if_pos zI0, qb_M_months_54]
            simp only [zI_of]
            rw [qb_M_months_66]
            simp only [zI_of, zI_add, zI_mul]
            rw [Int.zero_add, Int.mul_one, Int.mul_zero, if_neg (by rw [zI_lt (by omega)]; omega)]
            have wd := c_M_weekdaysIn (d + 28) (f := 0) (m := m) (w := w) (μ := μ) (by omega) (by omega) hw
            have e0 : cntB (fun i => decide ((0 + i) % 7 = w)) m = wdm w m 0 := by unfold wdm; rw [Nat.zero_mul]
            rw [e0] at wd
            rw [show qcall qprogs (d + 29) 217 [qI (zI (w : Nat)), qI (zI 0), qI (zI (m : Nat))] μ = _ from wd, qbI_some, if_neg (by rw [zI_le (by omega)]; omega), qb_M_months_106, if_pos rfl, zI_of, qb_M_months_120, zI_add, zI_of, zI_add, show 84 / m = (84 / m - 1) + 1 by omega, fol_s]
            exact i1
        · refine ⟨qI (zI (-2)), refS σ 2, fun d μ h => ?_, fun d μ h => ?_, ok.ref⟩
          · have q : qcall qprogs (d + 30) 85 [qR (0, 0, 0), qI (zI z1), qI (zI z2), qI (zI z3)] μ = qx (d + 29) qc_J_months 48 [some (qR (0, 0, 0)), none, none, none, none, none, none, none, none] [] μ := by
              rw [fJ d μ h, qb_J_months_39]
              simp only [zI_of]
              by_cases q : z3 < 0
              · rw [if_pos (by rw [zI_0, zI_lt (by omega)]; omega)]
              · rw [if_neg (by rw [zI_0, zI_lt (by omega)]; omega), if_neg (by rw [zI_le (by omega)]; omega)]
            rw [q, qb_J_months_48, zI_of]
            exact j_ref1 (d := d + 28) (f := -2) h (by decide)
          · exact eR (-2) (by decide) d μ h (by
              rw [eM d μ h, if_neg e1, if_neg e2, qb_M_months_22, if_pos zI0]
              simp only [zI_of]
              rw [c_M_isIn (d + 28) (by omega), qbI_some, show (decide ((0 : Int) ≤ z3) && decide (z3 ≤ 2)) = false by rw [← Bool.decide_and]; exact decide_eq_false e3, if_pos (by decide)])
  · refine ⟨qI (zI (-1)), refS σ 1, fun d μ h => ?_, fun d μ h => ?_, ok.ref⟩
    · rw [qe_J_months, qb_J_months_0, c_J_isNoWeekday (d + 28) h1, qbI_some, decide_eq_false hz, if_neg (by decide), zI_of]
      exact j_ref1 (d := d + 28) (f := -1) h (by decide)
    · rw [qe_M_months, qb_M_months_0]
      simp only [zI_of]
      rw [c_M_isIn (d + 28) (by omega), qbI_some, show (decide ((0 : Int) ≤ z1) && decide (z1 ≤ 6)) = false by rw [← Bool.decide_and]; exact decide_eq_false hz, if_pos (by decide), qb_M_months_22, if_neg (by decide +kernel), qb_M_months_42, if_neg (by decide +kernel)]
      exact m_ref1 (d := d + 28) (f := -1) h (by decide)
end
