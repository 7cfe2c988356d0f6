section
/-! what can be taken back -/
def remP (σ : GS) : Nat → AS := if gN σ < 8 then gP σ else fun i => gP σ (i + 1)
def remN (σ : GS) : Nat := if gN σ < 8 then gN σ else 7
def remS (σ : GS) : GS := (gS σ, gI σ, (remN σ + 1, fun i => if i = remN σ then gS σ else remP σ i), σ.2.2.2)
theorem remN_lt (σ : GS) : remN σ < 8 := by unfold remN; split <;> omega
theorem GOK.rem {σ : GS} (ok : GOK σ) : GOK (remS σ) := by
  have h8 := ok.2.2.1
  refine ⟨ok.1, ok.2.1, remN_lt σ, fun i (hi : i < remN σ + 1) => ?_, ok.2.2.2.2⟩
  show aOK (if i = remN σ then gS σ else remP σ i)
  split
  · exact ok.1
  · rename_i e
    unfold remN at hi e
    unfold remP
    by_cases q : gN σ < 8
    · rw [if_pos q] at hi e ⊢
      exact ok.2.2.2.1 i (by omega)
    · rw [if_neg q] at hi e ⊢
      exact ok.2.2.2.1 (i + 1) (by omega)
def isRm (a : QA) : Prop := a = (0, 0, 0) ∨ a = (17, 0, 0) ∨ ((a.1 = 1 ∨ a.1 = 2 ∨ a.1 = 3) ∧ 3 ≤ a.2.1)
theorem isRm_A {j : Nat} (hj : j < 3) (a : QA) (h : isA j a) : ¬ isRm a := fun z => by
  rcases z with z | z | z
  · rw [z] at h; exact isA_no (Or.inl rfl) h
  · rw [z] at h; exact isA_no (Or.inr (by decide)) h
  · have := h.2; omega
theorem isRm_cl (a : QA) (h : isRm a) : isCl a := by
  unfold isCl
  rcases h with z | z | z
  · rw [z]; decide
  · rw [z]; decide
  · omega
theorem c_J_rem58 (d : Nat) {s : AS} {m : Nat} {P : Nat → AS} {μ : QM} (hA : RA μ 0 s) (ok : aOK s) (h : CPast μ m P) (hm : m < 8) :
    ∃ μ', qx (d + 2) qc_J_remember 58 [some (qR (0, 0, 0)), none, none] [] μ = some (none, μ') ∧ CPast μ' (m + 1) (fun i => if i = m then s else P i) ∧ Fr isRm μ μ' ∧ ∀ k, k ≠ 5 → μ'.1 (0, 0, 0) k = μ.1 (0, 0, 0) k := by
  obtain ⟨-, h2, π, h3, h4, h5⟩ := h
  obtain ⟨p1, p2, p3⟩ := h3 m hm
  obtain ⟨μ1, r1, r2, r3⟩ := c_Affair_copyFrom d (j := π m) (j' := 0) p3 (by decide) (by omega) hA ok
  have e0 : μ1.1 (0, 0, 0) = μ.1 (0, 0, 0) := r2.1 _ (isA_no (Or.inl rfl))
  have e17 : μ1.2.2 (17, 0, 0) = μ.2.2 (17, 0, 0) := r2.2.2 _ (isA_no (Or.inr (by decide)))
  refine ⟨qsi μ1 (0, 0, 0) 5 (zI ((m + 1 : Nat) : Int)), ?_, ?_, ?_, fun k hk => ?_⟩
  · rw [qb_J_remember_58, h2, if_neg (by rw [zI_0, zI_lt (by omega)]; omega), zI_oob (n := 8) (by omega), cond_false, show qix (zI (m : Nat)) = m from zI_ixN (by omega), p1, qoN_some (qd2 p3), r1, qbV_some, e0, h2, zI_of, zI_add, qb_J_remember_91]
    rfl
  · have hd : Fr isHd μ1 (qsi μ1 (0, 0, 0) 5 (zI ((m + 1 : Nat) : Int))) := Fr.si (Or.inl rfl)
    refine ⟨hm, qsi_self _ _ _ _, π, fun i hi => by show μ1.2.2 (17, 0, 0) i = _ ∧ _; rw [e17]; exact h3 i hi, h4, fun i hi => ?_⟩
    dsimp only
    by_cases e : i = m
    · subst e
      rw [if_pos rfl]
      exact r3.hd hd
    · rw [if_neg e]
      refine ((h5 i (by omega)).fr r2 fun a a1 a2 => ?_).hd hd
      exact e (h4 i m (by omega) hm (a1.2.symm.trans a2.2))
  · exact (r2.mono fun a ha => Or.inr (Or.inr ⟨ha.1, by rw [ha.2]; exact p2⟩)).si' (Or.inl rfl)
  · rw [qsi_get, if_neg (fun z => hk z.2), e0]
theorem c_J_remember (d : Nat) {μ : QM} {σ : GS} (h : CI μ σ) (ok : GOK σ) : ∃ μ', qcall qprogs (d + 3) 115 [qR (0, 0, 0)] μ = some (none, μ') ∧ CI μ' (remS σ) ∧ Fr isCl μ μ' := by
  have key : ∃ μ', qcall qprogs (d + 3) 115 [qR (0, 0, 0)] μ = some (none, μ') ∧ CPast μ' (remN σ + 1) (fun i => if i = remN σ then gS σ else remP σ i) ∧ Fr isRm μ μ' ∧ ∀ k, k ≠ 5 → μ'.1 (0, 0, 0) k = μ.1 (0, 0, 0) k := by
    have h8 := ok.2.2.1
    obtain ⟨-, a2, π, a3, a4, a5⟩ := h.1.2.2.1
    by_cases q : gN σ < 8
    · unfold remN remP
      rw [if_pos q, if_pos q]
      obtain ⟨μ', r1, r2, r3, r4⟩ := c_J_rem58 d h.1.1 ok.1 h.1.2.2.1 q
      refine ⟨μ', ?_, r2, r3, r4⟩
      rw [qe_J_remember, qb_J_remember_0, a2, zI_of, if_pos (by rw [zI_lt (by omega)]; omega), r1]
    · unfold remN remP
      rw [if_neg q, if_neg q]
      obtain ⟨p1, p2, p3⟩ := a3 0 (by decide)
      have L : ∀ r i (μ1 : QM), i + r = 8 → 1 ≤ i → μ1.1 = μ.1 → (∀ a, a ≠ (17, 0, 0) → μ1.2.2 a = μ.2.2 a) → μ1.2.1 = μ.2.1 → (∀ j, j < 8 → μ1.2.2 (17, 0, 0) j = if j + 1 < i then some (2, π (j + 1), 0) else some (2, π j, 0)) →
          ∃ μ2, qx (d + 2) qc_J_remember 18 [some (qR (0, 0, 0)), some (qR (2, π 0, 0)), some (qI (zI (i : Nat)))] [] μ1 = qx (d + 2) qc_J_remember 58 [some (qR (0, 0, 0)), none, none] [] (qsi μ2 (0, 0, 0) 5 (zI 7)) ∧ μ2.1 = μ.1 ∧ (∀ a, a ≠ (17, 0, 0) → μ2.2.2 a = μ.2.2 a) ∧ μ2.2.1 = μ.2.1 ∧ ∀ j, j < 8 → μ2.2.2 (17, 0, 0) j = if j < 7 then some (2, π (j + 1), 0) else some (2, π 0, 0) := by
        intro r
        induction r with
        | zero =>
          intro i μ1 hi _ m1 m2 m3 m4
          refine ⟨qsr μ1 (17, 0, 0) 7 (some (2, π 0, 0)), ?_, m1, fun a ha => (qsr_ne ha).trans (m2 a ha), m3, fun j hj => ?_⟩
          · rw [qb_J_remember_18b, zI_of, if_pos (by rw [zI_le (by omega)]; omega), qb_J_remember_44b]
            simp only [zI_of]
            rw [zI_oob (a := 7) (n := 8) (by omega), cond_false, show qix (zI 7) = 7 from zI_ixN (n := 7) (by omega)]
          · show (if (17, 0, 0) = ((17, 0, 0) : QA) ∧ j = 7 then _ else _) = _
            by_cases e : j = 7
            · rw [if_pos ⟨rfl, e⟩, if_neg (by omega)]
            · rw [if_neg (fun z => e z.2), m4 j hj, if_pos (by omega), if_pos (by omega)]
        | succ r ih =>
          intro i μ1 hi h1 m1 m2 m3 m4
          have v := m4 i (by omega)
          rw [if_neg (by omega)] at v
          have hpi := a3 i (by omega)
          rw [qb_J_remember_18b, zI_of, if_neg (by rw [zI_le (by omega)]; omega), zI_oob (n := 8) (by omega), cond_false, show qix (zI (i : Nat)) = i from zI_ixN (by omega), v, qoN_some (qd2 hpi.2.2)]
          simp only [zI_of, zI_sub, zI_add]
          rw [zI_oob (n := 8) (by omega), cond_false, show qix (zI ((i : Nat) - 1 : Int)) = i - 1 by rw [show ((i : Nat) - 1 : Int) = ((i - 1 : Nat) : Int) by omega]; exact zI_ixN (by omega)]
          refine ih (i + 1) (qsr μ1 (17, 0, 0) (i - 1) (some (2, π i, 0))) (by omega) (by omega) m1 (fun a ha => (qsr_ne ha).trans (m2 a ha)) m3 fun j hj => ?_
          show (if (17, 0, 0) = ((17, 0, 0) : QA) ∧ j = i - 1 then _ else _) = _
          by_cases e : j = i - 1
          · rw [if_pos ⟨rfl, e⟩, if_pos (by omega), show j + 1 = i by omega]
          · rw [if_neg (fun z => e z.2), m4 j hj]
            by_cases e2 : j + 1 < i
            · rw [if_pos e2, if_pos (by omega)]
            · rw [if_neg e2, if_neg (by omega)]
      obtain ⟨μ2, l1, l2, l3, l4, l5⟩ := L 7 1 μ (by decide) (by decide) rfl (fun _ _ => rfl) rfl (fun j hj => by rw [if_neg (by omega)]; exact (a3 j hj).1)
      have hd : Fr isHd μ (qsi μ2 (0, 0, 0) 5 (zI 7)) := ⟨fun a ha => by rw [qsi_ne (fun e => ha (by rw [e]; exact Or.inl rfl)), l2], fun a _ => by show μ2.2.1 a = _; rw [l4], fun a ha => l3 a (fun e => ha (by rw [e]; exact Or.inr (by decide)))⟩
      have past : CPast (qsi μ2 (0, 0, 0) 5 (zI 7)) 7 (fun i => gP σ (i + 1)) := ⟨by decide, qsi_self _ _ _ _, fun i => if i < 7 then π (i + 1) else π 0, fun i hi => by
        show μ2.2.2 (17, 0, 0) i = _ ∧ _
        rw [l5 i hi]
        dsimp only
        by_cases e : i < 7
        · rw [if_pos e, if_pos e]; exact ⟨rfl, (a3 (i + 1) (by omega)).2⟩
        · rw [if_neg e, if_neg e]; exact ⟨rfl, p2, p3⟩, fun i j hi hj e => by
        dsimp only at e
        by_cases e1 : i < 7
        · by_cases e2 : j < 7
          · rw [if_pos e1, if_pos e2] at e
            have := a4 _ _ (by omega) (by omega) e
            omega
          · rw [if_pos e1, if_neg e2] at e
            have := a4 _ _ (by omega) (by omega) e
            omega
        · by_cases e2 : j < 7
          · rw [if_neg e1, if_pos e2] at e
            have := a4 _ _ (by omega) (by omega) e
            omega
          · omega, fun i hi => by
        dsimp only
        rw [if_pos hi]
        exact (a5 (i + 1) (by omega)).hd hd⟩
      obtain ⟨μ', r1, r2, r3, r4⟩ := c_J_rem58 d (h.1.1.hd hd) ok.1 past (by decide)
      refine ⟨μ', ?_, r2, (?_ : Fr isRm _ _).tr r3, fun k hk => (r4 k hk).trans (by rw [qsi_get, if_neg (fun z => hk z.2), l2])⟩
      · rw [qe_J_remember, qb_J_remember_0, a2]
        simp only [zI_of]
        rw [if_neg (by rw [zI_lt (by omega)]; omega), zI_oob (a := 0) (n := 8) (by omega), cond_false, show qix (zI 0) = 0 from zI_ixN (n := 0) (by omega), p1, qoN_some (qd2 p3)]
        exact l1.trans r1
      · exact ⟨fun a ha => by rw [qsi_ne (fun e => ha (by rw [e]; exact Or.inl rfl)), l2], fun a _ => by show μ2.2.1 a = _; rw [l4], fun a ha => l3 a (fun e => ha (by rw [e]; exact Or.inr (Or.inl rfl)))⟩
  obtain ⟨μ', r1, r2, r3, r4⟩ := key
  obtain ⟨⟨h1, h2, h3, h4, h5, h6⟩, h7⟩ := h
  have no : ∀ t, 18 ≤ t → ¬ isRm (t, 0, 0) := fun t ht z => by
    rcases z with z | z | z
    · simp at z; omega
    · simp at z; omega
    · dsimp only at z; omega
  refine ⟨μ', r1, ⟨⟨h1.fr r3 (isRm_A (by decide)), h2.c (r4 3 (by decide)) (fun s q => q.fr r3 (isRm_A (by decide))), r2, h4.c (r4 7 (by decide)) (r3.1 _ (no 18 (by decide))), h5.c (r4 9 (by decide)) (r3.1 _ (no 19 (by decide))), h6.c (r3.1 _ (no 20 (by decide)))⟩, h7.fr r3 fun t p c ht ht2 z => ?_⟩, r3.mono isRm_cl⟩
  rcases z with z | z | z
  · simp at z; omega
  · simp at z; omega
  · dsimp only at z; omega
theorem c_M_keepsBack (d : Nat) {μ : QM} {σ : GS} (h : MI μ σ) (ok : GOK σ) : ∃ μ', qcall qprogs (d + 3) 171 [qR (24, 0, 0)] μ = some (none, μ') ∧ MI μ' (remS σ) ∧ Fr isMd μ μ' := by
  have n12 := ok.1.2.1
  have fin : ∀ (m : Nat) (P : Nat → AS) (μ1 : QM), m < 8 → RM μ1 (gS σ) → MPast μ1 m P → (∀ i, i < m → aN (P i) ≤ 12) → Fr isRd μ μ1 → (∀ k, k = 17 ∨ k = 21 ∨ k = 33 → μ1.1 (24, 0, 0) k = μ.1 (24, 0, 0) k) → (∀ x, x < 80 → μ1.1 (40, 0, 0) x = μ.1 (40, 0, 0) x) → ∃ μ', qx (d + 2) qc_M_keepsBack 51 [some (qR (24, 0, 0)), none] [] μ1 = some (none, μ') ∧ RM μ' (gS σ) ∧ MPast μ' (m + 1) (fun i => if i = m then gS σ else P i) ∧ Fr isRd μ μ' ∧ (∀ k, k = 17 ∨ k = 21 ∨ k = 33 → μ'.1 (24, 0, 0) k = μ.1 (24, 0, 0) k) ∧ ∀ x, x < 80 → μ'.1 (40, 0, 0) x = μ.1 (40, 0, 0) x := by
    intro m P μ1 hm hR hP hP12 f e24 e40
    obtain ⟨p1, p2, p3⟩ := hP
    obtain ⟨μ2, r1, r2, r3, r4, r5, r6⟩ := c_M_keep d (k := 2 + m) hR n12 (by omega)
    have c40 : (qsi μ2 (24, 0, 0) 24 (zI ((m + 1 : Nat) : Int))).1 (40, 0, 0) = μ2.1 (40, 0, 0) := qsi_ne (by simp)
    refine ⟨qsi μ2 (24, 0, 0) 24 (zI ((m + 1 : Nat) : Int)), ?_, r2.fld (by decide), ⟨hm, qsi_self _ _ _ _, fun i hi => ?_⟩, ?_, fun k hk => ?_, fun x hx => ?_⟩
    · rw [qb_M_keepsBack_51, p2, zI_of, zI_of, zI_add, show (2 : Int) + (m : Nat) = ((2 + m : Nat) : Int) by omega, r1, qbV_some, r5 24 (by decide) (by decide), p2, zI_add]
      rfl
    · show KS _ (2 + i) (if i = m then gS σ else P i)
      unfold KS
      rw [c40]
      by_cases e : i = m
      · subst e
        rw [if_pos rfl]
        exact r3
      · rw [if_neg e]
        exact (p3 i (by omega)).congr (hP12 i (by omega)) fun x a b => r6 x (by omega)
    · exact (f.tr (r4.mono fun a ha => by
        rcases ha with q | q
        · exact Or.inl q
        · exact Or.inr (Or.inr (Or.inl (by rw [q]; decide))))).si' (Or.inl rfl)
    · rw [qsi_get, if_neg (by omega), r5 k (by omega) (by omega)]
      exact e24 k hk
    · rw [c40, r6 x (by omega)]
      exact e40 x hx
  have key : ∃ μ', qcall qprogs (d + 3) 171 [qR (24, 0, 0)] μ = some (none, μ') ∧ RM μ' (gS σ) ∧ MPast μ' (remN σ + 1) (fun i => if i = remN σ then gS σ else remP σ i) ∧ Fr isRd μ μ' ∧ (∀ k, k = 17 ∨ k = 21 ∨ k = 33 → μ'.1 (24, 0, 0) k = μ.1 (24, 0, 0) k) ∧ ∀ x, x < 80 → μ'.1 (40, 0, 0) x = μ.1 (40, 0, 0) x := by
    have h8 := ok.2.2.1
    obtain ⟨-, a2, a3⟩ := h.2.2.1
    by_cases q : gN σ < 8
    · unfold remN remP
      rw [if_pos q, if_pos q]
      obtain ⟨μ', r1, r2⟩ := fin (gN σ) (gP σ) μ q h.1 h.2.2.1 (fun i hi => (ok.2.2.2.1 i hi).2.1) Fr.rf (fun _ _ => rfl) (fun _ _ => rfl)
      refine ⟨μ', ?_, r2⟩
      rw [qe_M_keepsBack, qb_M_keepsBack_0, a2, zI_of, if_neg (by rw [zI_eq (by omega)]; omega), r1]
    · unfold remN remP
      rw [if_neg q, if_neg q]
      have L : ∀ r k (μ1 : QM), k + r = 720 → 160 ≤ k → (∀ a, a ≠ (40, 0, 0) → μ1.1 a = μ.1 a) → μ1.2 = μ.2 → (∀ x, μ1.1 (40, 0, 0) x = if 160 ≤ x ∧ x < k then μ.1 (40, 0, 0) (x + 80) else μ.1 (40, 0, 0) x) →
          ∃ μ2, qx (d + 2) qc_M_keepsBack 13 [some (qR (24, 0, 0)), some (qI (zI (k : Nat)))] [] μ1 = qx (d + 2) qc_M_keepsBack 41 [some (qR (24, 0, 0)), none] [] μ2 ∧ (∀ a, a ≠ (40, 0, 0) → μ2.1 a = μ.1 a) ∧ μ2.2 = μ.2 ∧ ∀ x, μ2.1 (40, 0, 0) x = if 160 ≤ x ∧ x < 720 then μ.1 (40, 0, 0) (x + 80) else μ.1 (40, 0, 0) x := by
        intro r
        induction r with
        | zero =>
          intro k μ1 hk h1 m1 m2 m3
          refine ⟨μ1, ?_, m1, m2, by rw [show 720 = k by omega]; exact m3⟩
          rw [qb_M_keepsBack_13, zI_of, if_pos (by rw [zI_le (by omega)]; omega)]
        | succ r ih =>
          intro k μ1 hk h1 m1 m2 m3
          rw [qb_M_keepsBack_13]
          simp only [zI_of, zI_add]
          rw [if_neg (by rw [zI_le (by omega)]; omega), zI_oob (n := 800) (by omega), cond_false, zI_oob (n := 800) (by omega), cond_false, show qix (zI (k : Nat)) = k from zI_ixN (by omega), show qix (zI ((k : Nat) + 80 : Int)) = k + 80 from zI_ixN (n := k + 80) (by omega), m3 (k + 80), if_neg (by omega)]
          refine ih (k + 1) _ (by omega) (by omega) (fun a ha => (qsi_ne ha).trans (m1 a ha)) m2 fun x => ?_
          rw [qsi_get]
          by_cases e : x = k
          · subst e; rw [if_pos ⟨rfl, rfl⟩, if_pos (by omega)]
          · rw [if_neg (fun z => e z.2), m3 x]
            by_cases e2 : 160 ≤ x ∧ x < k
            · rw [if_pos e2, if_pos (by omega)]
            · rw [if_neg e2, if_neg (by omega)]
      obtain ⟨μ2, l1, l2, l3, l4⟩ := L 560 160 μ (by decide) (by decide) (fun _ _ => rfl) rfl (fun x => by rw [if_neg (by omega)])
      have e24 : μ2.1 (24, 0, 0) = μ.1 (24, 0, 0) := l2 _ (by simp)
      have rm2 : RM μ2 (gS σ) := h.1.congr (by rw [e24]) (by rw [e24]) (fun k hk => l2 _ (by simp; omega)) rfl rfl (fun _ _ _ _ => rfl) (fun _ _ _ _ => rfl)
      have c40 : ∀ v, (qsi μ2 (24, 0, 0) 24 v).1 (40, 0, 0) = μ2.1 (40, 0, 0) := fun v => qsi_ne (by simp)
      obtain ⟨μ', r1, r2⟩ := fin 7 (fun i => gP σ (i + 1)) (qsi μ2 (24, 0, 0) 24 (zI ((7 : Nat) : Int))) (by decide) (rm2.fld (by decide)) ⟨by decide, qsi_self _ _ _ _, fun i hi => by
          obtain ⟨k1, k2, k3, k4⟩ := a3 (i + 1) (by omega)
          have hn := (ok.2.2.2.1 (i + 1) (by omega)).2.1
          unfold KS
          rw [c40]
          have sh : ∀ y, y < 80 → μ2.1 (40, 0, 0) (80 * (2 + i) + y) = μ.1 (40, 0, 0) (80 * (2 + (i + 1)) + y) := fun y hy => by
            rw [l4, if_pos (by omega)]
            exact congrArg _ (by omega)
          refine ⟨fun w j hw hj => ?_, fun c j hc hj => ?_, ?_, ?_⟩
          · rw [show 80 * (2 + i) + 2 * j + w = 80 * (2 + i) + (2 * j + w) by omega, sh _ (by omega), ← Nat.add_assoc]
            exact k1 w j hw hj
          · dsimp only at hc
            rw [show 80 * (2 + i) + 10 + 12 * j + c = 80 * (2 + i) + (10 + 12 * j + c) by omega, sh _ (by omega), show 80 * (2 + (i + 1)) + (10 + 12 * j + c) = 80 * (2 + (i + 1)) + 10 + 12 * j + c by omega]
            exact k2 c j hc hj
          · rw [sh _ (by omega)]; exact k3
          · rw [sh _ (by omega)]; exact k4⟩ (fun i hi => (ok.2.2.2.1 (i + 1) (by omega)).2.1)
        (Fr.si' ⟨fun a ha => l2 a (fun e => ha (by rw [e]; exact Or.inr (Or.inr (Or.inl (by decide))))), fun a _ => by rw [l3], fun a _ => by rw [l3]⟩ (Or.inl rfl))
        (fun k hk => by rw [qsi_get, if_neg (by omega), e24]) (fun x hx => by rw [c40, l4, if_neg (by omega)])
      refine ⟨μ', ?_, r2⟩
      rw [qe_M_keepsBack, qb_M_keepsBack_0, a2]
      simp only [zI_of]
      rw [if_pos (by rw [zI_eq (by omega)]; omega)]
      refine l1.trans ?_
      rw [qb_M_keepsBack_41, e24, a2, zI_of, zI_sub, show ((gN σ : Nat) : Int) - 1 = ((7 : Nat) : Int) by omega]
      exact r1
  obtain ⟨μ', r1, r2, r3, r4, r5, r6⟩ := key
  obtain ⟨h1, h2, h3, h4, h5, h6⟩ := h
  refine ⟨μ', r1, ⟨r2, h2.c ok.2.1 (r5 21 (by omega)) r6, r3, h4.c (r5 17 (by omega)) (r4.1 _ (by unfold isRd; simp)), h5.c (r5 33 (by omega)) (r4.1 _ (by unfold isRd; simp)), h6.c (r4.1 _ (by unfold isRd; simp))⟩, r4.mono fun a ha => ?_⟩
  unfold isMd
  rcases ha with q | q | q | q
  · rw [q]; decide
  · omega
  · omega
  · omega
end
