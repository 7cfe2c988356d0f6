section
/-! the reference's kept rows -/
def pL (i : Nat) : Nat := if i < 5 then 2 else 12
def pO (i : Nat) : Nat := if i ≤ 5 then 2 * i else 10 + 12 * (i - 5)
def Kp (μ μ' : QM) (t x k : Nat) : Prop := μ'.1 (24, 0, 0) 23 = zI ((x + k : Nat) : Int) ∧ (∀ j, j ≠ 23 → μ'.1 (24, 0, 0) j = μ.1 (24, 0, 0) j) ∧ (∀ i, i < k → μ'.1 (40, 0, 0) (x + i) = μ.1 (t, 0, 0) i) ∧ (∀ y, y < x ∨ x + k ≤ y → μ'.1 (40, 0, 0) y = μ.1 (40, 0, 0) y) ∧ (∀ a, a ≠ (24, 0, 0) → a ≠ (40, 0, 0) → μ'.1 a = μ.1 a) ∧ μ'.2 = μ.2
def Kr (μ μ' : QM) (t x k : Nat) : Prop := μ'.1 (24, 0, 0) 23 = zI ((x + k : Nat) : Int) ∧ (∀ j, j ≠ 23 → μ'.1 (24, 0, 0) j = μ.1 (24, 0, 0) j) ∧ (∀ i, i < k → μ'.1 (t, 0, 0) i = μ.1 (40, 0, 0) (x + i)) ∧ (∀ a, a ≠ (24, 0, 0) → a ≠ (t, 0, 0) → μ'.1 a = μ.1 a) ∧ μ'.2 = μ.2
abbrev psB2 (d t L : Nat) : Prop := ∀ (a2 : Int32) (μ : QM), qx d qc_M_passes 2 [some (qR (24, 0, 0)), some (qR (t, 0, 0)), some (qI a2)] [] μ = if (Int32.ofInt (L : Nat)) ≤ a2 then qx d qc_M_passes 58 [none, none, none] [] μ else if (qbz (μ.1 (24, 0, 0) 22)) = 0 then qx d qc_M_passes 30 [some (qR (24, 0, 0)), some (qR (t, 0, 0)), some (qI a2)] [] μ else bif qoob a2 L then none else bif qoob (μ.1 (24, 0, 0) 23) 800 then none else qx d qc_M_passes 42 [some (qR (24, 0, 0)), some (qR (t, 0, 0)), some (qI a2)] [] (qsi μ (40, 0, 0) (qix (μ.1 (24, 0, 0) 23)) (μ.1 (t, 0, 0) (qix a2)))
abbrev psB30 (d t L : Nat) : Prop := ∀ (a2 : Int32) (μ : QM), qx d qc_M_passes 30 [some (qR (24, 0, 0)), some (qR (t, 0, 0)), some (qI a2)] [] μ = bif qoob (μ.1 (24, 0, 0) 23) 800 then none else bif qoob a2 L then none else qx d qc_M_passes 42 [some (qR (24, 0, 0)), some (qR (t, 0, 0)), some (qI a2)] [] (qsi μ (t, 0, 0) (qix a2) (μ.1 (40, 0, 0) (qix (μ.1 (24, 0, 0) 23))))
abbrev psB42 (d t : Nat) : Prop := ∀ (a2 : Int32) (μ : QM), qx d qc_M_passes 42 [some (qR (24, 0, 0)), some (qR (t, 0, 0)), some (qI a2)] [] μ = qx d qc_M_passes 2 [some (qR (24, 0, 0)), some (qR (t, 0, 0)), some (qI (a2 + Int32.ofInt 1))] [] (qsi μ (24, 0, 0) 23 ((μ.1 (24, 0, 0) 23) + (Int32.ofInt 1)))
theorem ps_keep {t L x d : Nat} {μ : QM} (ht : 26 ≤ t ∧ t ≤ 35) (hL : L ≤ 12) (hx : x + L ≤ 800) (h22 : μ.1 (24, 0, 0) 22 = zI 1) (B2 : psB2 d t L) (B42 : psB42 d t) :
    ∀ (r k : Nat) (μ1 : QM), k + r = L → Kp μ μ1 t x k → ∃ μ2, qx d qc_M_passes 2 [some (qR (24, 0, 0)), some (qR (t, 0, 0)), some (qI (zI (k : Nat)))] [] μ1 = some (none, μ2) ∧ Kp μ μ2 t x L := by
  intro r
  induction r with
  | zero =>
    intro k μ1 hk h
    rw [B2, zI_of, if_pos (by rw [zI_le (by omega)]; omega), qb_M_passes_58]
    exact ⟨μ1, rfl, by rw [show L = k by omega]; exact h⟩
  | succ r ih =>
    intro k μ1 hk h
    obtain ⟨h1, h2, h3, h4, h5, h6⟩ := h
    have n1 : ((t, 0, 0) : QA) ≠ (24, 0, 0) := by simp; omega
    have n2 : ((t, 0, 0) : QA) ≠ (40, 0, 0) := by simp; omega
    rw [B2, zI_of, if_neg (by rw [zI_le (by omega)]; omega), h2 22 (by decide), h22, if_neg (by decide +kernel), zI_oob (n := L) (by omega), cond_false, h1, zI_oob (n := 800) (by omega), cond_false, show qix (zI ((x + k : Nat) : Int)) = x + k from zI_ixN (by omega), show qix (zI (k : Nat)) = k from zI_ixN (by omega), h5 _ n1 n2, B42, qsi_ne (by simp), h1, zI_of, zI_add, zI_add]
    refine ih (k + 1) _ (by omega) ⟨qsi_self _ _ _ _, fun j hj => ?_, fun i hi => ?_, fun y hy => ?_, fun a a1 a2 => ?_, h6⟩
    · rw [qsi_get, if_neg (fun z => hj z.2), qsi_ne (by simp)]
      exact h2 j hj
    · rw [qsi_ne (by simp), qsi_get]
      by_cases e : i = k
      · subst e; rw [if_pos ⟨rfl, rfl⟩]
      · rw [if_neg (by omega)]; exact h3 i (by omega)
    · rw [qsi_ne (by simp), qsi_get, if_neg (by omega)]
      exact h4 y (by omega)
    · rw [qsi_ne a1, qsi_ne a2]
      exact h5 a a1 a2
theorem ps_rest {t L x d : Nat} {μ : QM} (ht : 26 ≤ t ∧ t ≤ 35) (hL : L ≤ 12) (hx : x + L ≤ 800) (h22 : μ.1 (24, 0, 0) 22 = zI 0) (B2 : psB2 d t L) (B30 : psB30 d t L) (B42 : psB42 d t) :
    ∀ (r k : Nat) (μ1 : QM), k + r = L → Kr μ μ1 t x k → ∃ μ2, qx d qc_M_passes 2 [some (qR (24, 0, 0)), some (qR (t, 0, 0)), some (qI (zI (k : Nat)))] [] μ1 = some (none, μ2) ∧ Kr μ μ2 t x L := by
  intro r
  induction r with
  | zero =>
    intro k μ1 hk h
    rw [B2, zI_of, if_pos (by rw [zI_le (by omega)]; omega), qb_M_passes_58]
    exact ⟨μ1, rfl, by rw [show L = k by omega]; exact h⟩
  | succ r ih =>
    intro k μ1 hk h
    obtain ⟨h1, h2, h3, h5, h6⟩ := h
    have n1 : ((24, 0, 0) : QA) ≠ (t, 0, 0) := by simp; omega
    have n2 : ((40, 0, 0) : QA) ≠ (t, 0, 0) := by simp; omega
    rw [B2, zI_of, if_neg (by rw [zI_le (by omega)]; omega), h2 22 (by decide), h22, if_pos (by decide +kernel), B30, h1, zI_oob (n := 800) (by omega), cond_false, zI_oob (n := L) (by omega), cond_false, show qix (zI ((x + k : Nat) : Int)) = x + k from zI_ixN (by omega), show qix (zI (k : Nat)) = k from zI_ixN (by omega), h5 _ (by simp) n2, B42, qsi_ne n1, h1, zI_of, zI_add, zI_add]
    refine ih (k + 1) _ (by omega) ⟨qsi_self _ _ _ _, fun j hj => ?_, fun i hi => ?_, fun a a1 a2 => ?_, h6⟩
    · rw [qsi_get, if_neg (fun z => hj z.2), qsi_ne n1]
      exact h2 j hj
    · rw [qsi_ne (fun z => n1 z.symm), qsi_get]
      by_cases e : i = k
      · subst e; rw [if_pos ⟨rfl, rfl⟩]
      · rw [if_neg (by omega)]; exact h3 i (by omega)
    · rw [qsi_ne a1, qsi_ne a2]
      exact h5 a a1 a2
theorem c_M_passesK (d : Nat) {i x : Nat} {μ : QM} (hi : i < 10) (hx : x + pL i ≤ 800) (h22 : μ.1 (24, 0, 0) 22 = zI 1) (h23 : μ.1 (24, 0, 0) 23 = zI (x : Nat)) : ∃ μ', qcall qprogs (d + 1) 168 [qR (24, 0, 0), qR (26 + i, 0, 0)] μ = some (none, μ') ∧ Kp μ μ' (26 + i) x (pL i) := by
  have k0 : ∀ t, Kp μ μ t x 0 := fun t => ⟨h23, fun _ _ => rfl, fun _ h => absurd h (by omega), fun _ _ => rfl, fun _ _ _ => rfl, rfl⟩
  rcases (by omega : i = 0 ∨ i = 1 ∨ i = 2 ∨ i = 3 ∨ i = 4 ∨ i = 5 ∨ i = 6 ∨ i = 7 ∨ i = 8 ∨ i = 9) with rfl | rfl | rfl | rfl | rfl | rfl | rfl | rfl | rfl | rfl
  · obtain ⟨μ', r1, r2⟩ := ps_keep (t := 26) (L := 2) (d := d) (by decide) (by decide) hx h22 (fun a m => qb_M_passes_2 d a m) (fun a m => qb_M_passes_42 d a m) 2 0 μ (by decide) (k0 _)
    exact ⟨μ', (qe_M_passes d μ).trans ((qb_M_passes_0 d μ).trans r1), r2⟩
  · obtain ⟨μ', r1, r2⟩ := ps_keep (t := 27) (L := 2) (d := d) (by decide) (by decide) hx h22 (fun a m => qb_M_passes_2b d a m) (fun a m => qb_M_passes_42b d a m) 2 0 μ (by decide) (k0 _)
    exact ⟨μ', (qe_M_passesb d μ).trans ((qb_M_passes_0b d μ).trans r1), r2⟩
  · obtain ⟨μ', r1, r2⟩ := ps_keep (t := 28) (L := 2) (d := d) (by decide) (by decide) hx h22 (fun a m => qb_M_passes_2c d a m) (fun a m => qb_M_passes_42c d a m) 2 0 μ (by decide) (k0 _)
    exact ⟨μ', (qe_M_passesc d μ).trans ((qb_M_passes_0c d μ).trans r1), r2⟩
  · obtain ⟨μ', r1, r2⟩ := ps_keep (t := 29) (L := 2) (d := d) (by decide) (by decide) hx h22 (fun a m => qb_M_passes_2d d a m) (fun a m => qb_M_passes_42d d a m) 2 0 μ (by decide) (k0 _)
    exact ⟨μ', (qe_M_passesd d μ).trans ((qb_M_passes_0d d μ).trans r1), r2⟩
  · obtain ⟨μ', r1, r2⟩ := ps_keep (t := 30) (L := 2) (d := d) (by decide) (by decide) hx h22 (fun a m => qb_M_passes_2e d a m) (fun a m => qb_M_passes_42e d a m) 2 0 μ (by decide) (k0 _)
    exact ⟨μ', (qe_M_passese d μ).trans ((qb_M_passes_0e d μ).trans r1), r2⟩
  · obtain ⟨μ', r1, r2⟩ := ps_keep (t := 31) (L := 12) (d := d) (by decide) (by decide) hx h22 (fun a m => qb_M_passes_2f d a m) (fun a m => qb_M_passes_42f d a m) 12 0 μ (by decide) (k0 _)
    exact ⟨μ', (qe_M_passesf d μ).trans ((qb_M_passes_0f d μ).trans r1), r2⟩
  · obtain ⟨μ', r1, r2⟩ := ps_keep (t := 32) (L := 12) (d := d) (by decide) (by decide) hx h22 (fun a m => qb_M_passes_2g d a m) (fun a m => qb_M_passes_42g d a m) 12 0 μ (by decide) (k0 _)
    exact ⟨μ', (qe_M_passesg d μ).trans ((qb_M_passes_0g d μ).trans r1), r2⟩
  · obtain ⟨μ', r1, r2⟩ := ps_keep (t := 33) (L := 12) (d := d) (by decide) (by decide) hx h22 (fun a m => qb_M_passes_2h d a m) (fun a m => qb_M_passes_42h d a m) 12 0 μ (by decide) (k0 _)
    exact ⟨μ', (qe_M_passesh d μ).trans ((qb_M_passes_0h d μ).trans r1), r2⟩
  · obtain ⟨μ', r1, r2⟩ := ps_keep (t := 34) (L := 12) (d := d) (by decide) (by decide) hx h22 (fun a m => qb_M_passes_2i d a m) (fun a m => qb_M_passes_42i d a m) 12 0 μ (by decide) (k0 _)
    exact ⟨μ', (qe_M_passesi d μ).trans ((qb_M_passes_0i d μ).trans r1), r2⟩
  · obtain ⟨μ', r1, r2⟩ := ps_keep (t := 35) (L := 12) (d := d) (by decide) (by decide) hx h22 (fun a m => qb_M_passes_2j d a m) (fun a m => qb_M_passes_42j d a m) 12 0 μ (by decide) (k0 _)
    exact ⟨μ', (qe_M_passesj d μ).trans ((qb_M_passes_0j d μ).trans r1), r2⟩
theorem c_M_passesR (d : Nat) {i x : Nat} {μ : QM} (hi : i < 10) (hx : x + pL i ≤ 800) (h22 : μ.1 (24, 0, 0) 22 = zI 0) (h23 : μ.1 (24, 0, 0) 23 = zI (x : Nat)) : ∃ μ', qcall qprogs (d + 1) 168 [qR (24, 0, 0), qR (26 + i, 0, 0)] μ = some (none, μ') ∧ Kr μ μ' (26 + i) x (pL i) := by
  have k0 : ∀ t, Kr μ μ t x 0 := fun t => ⟨h23, fun _ _ => rfl, fun _ h => absurd h (by omega), fun _ _ _ => rfl, rfl⟩
  rcases (by omega : i = 0 ∨ i = 1 ∨ i = 2 ∨ i = 3 ∨ i = 4 ∨ i = 5 ∨ i = 6 ∨ i = 7 ∨ i = 8 ∨ i = 9) with rfl | rfl | rfl | rfl | rfl | rfl | rfl | rfl | rfl | rfl
  · obtain ⟨μ', r1, r2⟩ := ps_rest (t := 26) (L := 2) (d := d) (by decide) (by decide) hx h22 (fun a m => qb_M_passes_2 d a m) (fun a m => qb_M_passes_30 d a m) (fun a m => qb_M_passes_42 d a m) 2 0 μ (by decide) (k0 _)
    exact ⟨μ', (qe_M_passes d μ).trans ((qb_M_passes_0 d μ).trans r1), r2⟩
  · obtain ⟨μ', r1, r2⟩ := ps_rest (t := 27) (L := 2) (d := d) (by decide) (by decide) hx h22 (fun a m => qb_M_passes_2b d a m) (fun a m => qb_M_passes_30b d a m) (fun a m => qb_M_passes_42b d a m) 2 0 μ (by decide) (k0 _)
    exact ⟨μ', (qe_M_passesb d μ).trans ((qb_M_passes_0b d μ).trans r1), r2⟩
  · obtain ⟨μ', r1, r2⟩ := ps_rest (t := 28) (L := 2) (d := d) (by decide) (by decide) hx h22 (fun a m => qb_M_passes_2c d a m) (fun a m => qb_M_passes_30c d a m) (fun a m => qb_M_passes_42c d a m) 2 0 μ (by decide) (k0 _)
    exact ⟨μ', (qe_M_passesc d μ).trans ((qb_M_passes_0c d μ).trans r1), r2⟩
  · obtain ⟨μ', r1, r2⟩ := ps_rest (t := 29) (L := 2) (d := d) (by decide) (by decide) hx h22 (fun a m => qb_M_passes_2d d a m) (fun a m => qb_M_passes_30d d a m) (fun a m => qb_M_passes_42d d a m) 2 0 μ (by decide) (k0 _)
    exact ⟨μ', (qe_M_passesd d μ).trans ((qb_M_passes_0d d μ).trans r1), r2⟩
  · obtain ⟨μ', r1, r2⟩ := ps_rest (t := 30) (L := 2) (d := d) (by decide) (by decide) hx h22 (fun a m => qb_M_passes_2e d a m) (fun a m => qb_M_passes_30e d a m) (fun a m => qb_M_passes_42e d a m) 2 0 μ (by decide) (k0 _)
    exact ⟨μ', (qe_M_passese d μ).trans ((qb_M_passes_0e d μ).trans r1), r2⟩
  · obtain ⟨μ', r1, r2⟩ := ps_rest (t := 31) (L := 12) (d := d) (by decide) (by decide) hx h22 (fun a m => qb_M_passes_2f d a m) (fun a m => qb_M_passes_30f d a m) (fun a m => qb_M_passes_42f d a m) 12 0 μ (by decide) (k0 _)
    exact ⟨μ', (qe_M_passesf d μ).trans ((qb_M_passes_0f d μ).trans r1), r2⟩
  · obtain ⟨μ', r1, r2⟩ := ps_rest (t := 32) (L := 12) (d := d) (by decide) (by decide) hx h22 (fun a m => qb_M_passes_2g d a m) (fun a m => qb_M_passes_30g d a m) (fun a m => qb_M_passes_42g d a m) 12 0 μ (by decide) (k0 _)
    exact ⟨μ', (qe_M_passesg d μ).trans ((qb_M_passes_0g d μ).trans r1), r2⟩
  · obtain ⟨μ', r1, r2⟩ := ps_rest (t := 33) (L := 12) (d := d) (by decide) (by decide) hx h22 (fun a m => qb_M_passes_2h d a m) (fun a m => qb_M_passes_30h d a m) (fun a m => qb_M_passes_42h d a m) 12 0 μ (by decide) (k0 _)
    exact ⟨μ', (qe_M_passesh d μ).trans ((qb_M_passes_0h d μ).trans r1), r2⟩
  · obtain ⟨μ', r1, r2⟩ := ps_rest (t := 34) (L := 12) (d := d) (by decide) (by decide) hx h22 (fun a m => qb_M_passes_2i d a m) (fun a m => qb_M_passes_30i d a m) (fun a m => qb_M_passes_42i d a m) 12 0 μ (by decide) (k0 _)
    exact ⟨μ', (qe_M_passesi d μ).trans ((qb_M_passes_0i d μ).trans r1), r2⟩
  · obtain ⟨μ', r1, r2⟩ := ps_rest (t := 35) (L := 12) (d := d) (by decide) (by decide) hx h22 (fun a m => qb_M_passes_2j d a m) (fun a m => qb_M_passes_30j d a m) (fun a m => qb_M_passes_42j d a m) 12 0 μ (by decide) (k0 _)
    exact ⟨μ', (qe_M_passesj d μ).trans ((qb_M_passes_0j d μ).trans r1), r2⟩
def KA (μ μ' : QM) (k i : Nat) : Prop := μ'.1 (24, 0, 0) 23 = zI ((80 * k + pO i : Nat) : Int) ∧ μ'.1 (24, 0, 0) 22 = zI 1 ∧ (∀ j, j ≠ 22 → j ≠ 23 → μ'.1 (24, 0, 0) j = μ.1 (24, 0, 0) j) ∧ (∀ i', i' < i → ∀ c, c < pL i' → μ'.1 (40, 0, 0) (80 * k + pO i' + c) = μ.1 (26 + i', 0, 0) c) ∧ (∀ y, y < 80 * k ∨ 80 * k + pO i ≤ y → μ'.1 (40, 0, 0) y = μ.1 (40, 0, 0) y) ∧ (∀ a, a ≠ (24, 0, 0) → a ≠ (40, 0, 0) → μ'.1 a = μ.1 a) ∧ μ'.2 = μ.2
theorem pO_s {i : Nat} (h : i < 10) : pO (i + 1) = pO i + pL i ∧ pO i + pL i ≤ 70 := by
  rcases (by omega : i = 0 ∨ i = 1 ∨ i = 2 ∨ i = 3 ∨ i = 4 ∨ i = 5 ∨ i = 6 ∨ i = 7 ∨ i = 8 ∨ i = 9) with rfl | rfl | rfl | rfl | rfl | rfl | rfl | rfl | rfl | rfl <;> decide
theorem pO_m : ∀ i, i ≤ 10 → ∀ i', i' < i → pO i' + pL i' ≤ pO i
  | 0, _, i', h => absurd h (by omega)
  | i + 1, hi, i', h => by
    have h1 := pO_s (show i < 10 by omega)
    by_cases e : i' = i
    · rw [e]; omega
    · have := pO_m i (by omega) i' (by omega)
      omega
theorem KA.step (d : Nat) {μ μ1 : QM} {k i : Nat} (h : KA μ μ1 k i) (hk : k ≤ 9) (hi : i < 10) : ∃ μ2, qcall qprogs (d + 1) 168 [qR (24, 0, 0), qR (26 + i, 0, 0)] μ1 = some (none, μ2) ∧ KA μ μ2 k (i + 1) := by
  obtain ⟨h1, h2, h3, h4, h5, h6, h7⟩ := h
  obtain ⟨o1, o2⟩ := pO_s hi
  obtain ⟨μ2, r1, k1, k2, k3, k4, k5, k6⟩ := c_M_passesK d hi (by omega) h2 h1
  refine ⟨μ2, r1, by rw [k1, o1]; exact zI_congr (by omega), (k2 22 (by decide)).trans h2, fun j a b => (k2 j b).trans (h3 j a b), fun i' hi' c hc => ?_, fun y hy => (k4 y (by omega)).trans (h5 y (by omega)), fun a a1 a2 => (k5 a a1 a2).trans (h6 a a1 a2), k6.trans h7⟩
  by_cases e : i' = i
  · subst e
    rw [k3 c hc, h6 _ (by simp; omega) (by simp; omega)]
  · have := pO_m i (by omega) i' (by omega)
    rw [k4 _ (by omega), h4 i' (by omega) c hc]
def KB (μ μ' : QM) (k i : Nat) : Prop := μ'.1 (24, 0, 0) 23 = zI ((80 * k + pO i : Nat) : Int) ∧ μ'.1 (24, 0, 0) 22 = zI 0 ∧ (∀ j, j ≠ 22 → j ≠ 23 → μ'.1 (24, 0, 0) j = μ.1 (24, 0, 0) j) ∧ (∀ i', i' < i → ∀ c, c < pL i' → μ'.1 (26 + i', 0, 0) c = μ.1 (40, 0, 0) (80 * k + pO i' + c)) ∧ (∀ a, a ≠ (24, 0, 0) → ¬ (26 ≤ a.1 ∧ a.1 ≤ 35) → μ'.1 a = μ.1 a) ∧ μ'.2 = μ.2
theorem KB.step (d : Nat) {μ μ1 : QM} {k i : Nat} (h : KB μ μ1 k i) (hk : k ≤ 9) (hi : i < 10) : ∃ μ2, qcall qprogs (d + 1) 168 [qR (24, 0, 0), qR (26 + i, 0, 0)] μ1 = some (none, μ2) ∧ KB μ μ2 k (i + 1) := by
  obtain ⟨h1, h2, h3, h4, h6, h7⟩ := h
  obtain ⟨o1, o2⟩ := pO_s hi
  obtain ⟨μ2, r1, k1, k2, k3, k5, k6⟩ := c_M_passesR d hi (by omega) h2 h1
  refine ⟨μ2, r1, by rw [k1, o1]; exact zI_congr (by omega), (k2 22 (by decide)).trans h2, fun j a b => (k2 j b).trans (h3 j a b), fun i' hi' c hc => ?_, fun a a1 a2 => (k5 a a1 (fun z => a2 (by rw [z]; dsimp only; omega))).trans (h6 a a1 a2), k6.trans h7⟩
  by_cases e : i' = i
  · subst e
    rw [k3 c hc, h6 _ (by simp) (by simp)]
  · rw [k5 _ (by simp; omega) (by simp; omega), h4 i' (by omega) c hc]
theorem c_M_keep (d : Nat) {k : Nat} {s : AS} {μ : QM} (h : RM μ s) (hn : aN s ≤ 12) (hk : k ≤ 9) :
    ∃ μ', qcall qprogs (d + 2) 170 [qR (24, 0, 0), qI (zI (k : Nat)), qI (zI 1)] μ = some (none, μ') ∧ RM μ' s ∧ KS μ' k s ∧ Fr (fun a => a = (24, 0, 0) ∨ a = (40, 0, 0)) μ μ' ∧ (∀ j, j ≠ 22 → j ≠ 23 → μ'.1 (24, 0, 0) j = μ.1 (24, 0, 0) j) ∧ ∀ y, y < 80 * k ∨ 80 * k + 80 ≤ y → μ'.1 (40, 0, 0) y = μ.1 (40, 0, 0) y := by
  have a0 : KA μ (qsi (qsi μ (24, 0, 0) 23 (zI ((80 * k : Nat) : Int))) (24, 0, 0) 22 (zI 1)) k 0 := ⟨by rw [qsi_get, if_neg (by simp), qsi_self]; rfl, qsi_self _ _ _ _, fun j a b => by rw [qsi_get, if_neg (fun z => a z.2), qsi_get, if_neg (fun z => b z.2)], fun _ h => absurd h (by omega), fun y _ => by rw [qsi_ne (by simp), qsi_ne (by simp)], fun a a1 _ => by rw [qsi_ne a1, qsi_ne a1], rfl⟩
  obtain ⟨μ1, r1, a1⟩ := a0.step d hk (by decide)
  obtain ⟨μ2, r2, a2⟩ := a1.step d hk (by decide)
  obtain ⟨μ3, r3, a3⟩ := a2.step d hk (by decide)
  obtain ⟨μ4, r4, a4⟩ := a3.step d hk (by decide)
  obtain ⟨μ5, r5, a5⟩ := a4.step d hk (by decide)
  obtain ⟨μ6, r6, a6⟩ := a5.step d hk (by decide)
  obtain ⟨μ7, r7, a7⟩ := a6.step d hk (by decide)
  obtain ⟨μ8, r8, a8⟩ := a7.step d hk (by decide)
  obtain ⟨μ9, r9, a9⟩ := a8.step d hk (by decide)
  obtain ⟨μ10, r10, a10⟩ := a9.step d hk (by decide)
  obtain ⟨b1, b2, b3, b4, b5, b6, b7⟩ := a10
  have e70 : pO 10 = 70 := by decide
  have c11 : μ10.1 (24, 0, 0) 11 = zI (aN s : Nat) := (b3 11 (by decide) (by decide)).trans h.cnt
  have c12 : μ10.1 (24, 0, 0) 12 = zI (aD s : Nat) := (b3 12 (by decide) (by decide)).trans h.day
  have one : ∀ (d : Nat) (v : Int32) (y : Nat) (m : QM), m.1 (24, 0, 0) 22 = zI 1 → m.1 (24, 0, 0) 23 = zI (y : Nat) → y < 800 → qcall qprogs (d + 1) 169 [qR (24, 0, 0), qI v] m = some (some (qI v), qsi (qsi m (40, 0, 0) y v) (24, 0, 0) 23 (zI ((y + 1 : Nat) : Int))) := fun d v y m h1 h2 h3 => by
    rw [qe_M_passOne, qb_M_passOne_0, h1, if_neg (by decide +kernel), qb_M_passOne_20, h1, if_neg (by decide +kernel), h2, zI_oob (n := 800) (by omega), cond_false, qb_M_passOne_38, qsi_ne (by simp), h2, zI_of, zI_add, show qix (zI (y : Nat)) = y from zI_ixN (by omega)]
    rfl
  have hs1 : qsi (qsi (qsi μ10 (40, 0, 0) (80 * k + 70) (zI (aN s : Nat))) (24, 0, 0) 23 (zI ((80 * k + 70 + 1 : Nat) : Int))) (24, 0, 0) 11 (zI (aN s : Nat)) = qsi (qsi (qsi μ10 (40, 0, 0) (80 * k + 70) (zI (aN s : Nat))) (24, 0, 0) 23 (zI ((80 * k + 70 + 1 : Nat) : Int))) (24, 0, 0) 11 (zI (aN s : Nat)) := rfl
  refine ⟨qsi (qsi (qsi (qsi (qsi (qsi μ10 (40, 0, 0) (80 * k + 70) (zI (aN s : Nat))) (24, 0, 0) 23 (zI ((80 * k + 70 + 1 : Nat) : Int))) (24, 0, 0) 11 (zI (aN s : Nat))) (40, 0, 0) (80 * k + 71) (zI (aD s : Nat))) (24, 0, 0) 23 (zI ((80 * k + 71 + 1 : Nat) : Int))) (24, 0, 0) 12 (zI (aD s : Nat)), ?_, ?_, ?_, ?_, ?_, ?_⟩
  · rw [qe_M_passesAll, qb_M_passesAll_0, if_pos (Or.inr (by decide +kernel)), zI_of, zI_mul, show (80 : Int) * (k : Nat) = ((80 * k : Nat) : Int) by omega, r1, qbV_some, r2, qbV_some, r3, qbV_some, r4, qbV_some, r5, qbV_some, r6, qbV_some, r7, qbV_some, r8, qbV_some, r9, qbV_some, r10, qbV_some, c11, one d _ (80 * k + 70) μ10 b2 (by rw [b1, e70]) (by omega), qbI_some]
    rw [one d _ (80 * k + 71) _ (by rw [qsi_get, if_neg (by simp), qsi_get, if_neg (by simp), qsi_ne (by simp)]; exact b2) (by rw [qsi_get, if_neg (by simp), qsi_self]) (by omega), qbI_some]
    rw [show (qsi (qsi (qsi μ10 (40, 0, 0) (80 * k + 70) (zI (aN s : Nat))) (24, 0, 0) 23 (zI ((80 * k + 70 + 1 : Nat) : Int))) (24, 0, 0) 11 (zI (aN s : Nat))).1 (24, 0, 0) 12 = zI (aD s : Nat) by rw [qsi_get, if_neg (by simp), qsi_get, if_neg (by simp), qsi_ne (by simp)]; exact c12]
  · refine ⟨qsi_self _ _ _ _, by rw [qsi_get, if_neg (by simp), qsi_get, if_neg (by simp), qsi_ne (by simp), qsi_self], fun w j hw hj => ?_, fun c j hc hj => ?_⟩
    · rw [qsi_ne (by simp; omega), qsi_ne (by simp; omega), qsi_ne (by simp; omega), qsi_ne (by simp; omega), qsi_ne (by simp; omega), qsi_ne (by simp; omega), b6 _ (by simp; omega) (by simp; omega)]
      exact h.p j hw hj
    · rw [qsi_ne (by simp; omega), qsi_ne (by simp; omega), qsi_ne (by simp; omega), qsi_ne (by simp; omega), qsi_ne (by simp; omega), qsi_ne (by simp; omega), b6 _ (by simp; omega) (by simp; omega)]
      exact h.c j hc hj
  · have key : ∀ y, y < 80 * k + 70 → (qsi (qsi (qsi (qsi (qsi (qsi μ10 (40, 0, 0) (80 * k + 70) (zI (aN s : Nat))) (24, 0, 0) 23 (zI ((80 * k + 70 + 1 : Nat) : Int))) (24, 0, 0) 11 (zI (aN s : Nat))) (40, 0, 0) (80 * k + 71) (zI (aD s : Nat))) (24, 0, 0) 23 (zI ((80 * k + 71 + 1 : Nat) : Int))) (24, 0, 0) 12 (zI (aD s : Nat))).1 (40, 0, 0) y = μ10.1 (40, 0, 0) y := fun y hy => by
      rw [qsi_ne (by simp), qsi_ne (by simp), qsi_get, if_neg (by omega), qsi_ne (by simp), qsi_ne (by simp), qsi_get, if_neg (by omega)]
    refine ⟨fun w j hw hj => ?_, fun c j hc hj => ?_, ?_, ?_⟩
    · have q := b4 j (by omega) w (by unfold pL; rw [if_pos hj]; exact hw)
      rw [show 80 * k + pO j + w = 80 * k + 2 * j + w by unfold pO; rw [if_pos (by omega)]] at q
      rw [key _ (by omega), q]
      exact h.p j hw hj
    · have q := b4 (5 + j) (by omega) c (by unfold pL; rw [if_neg (by omega)]; omega)
      rw [show 80 * k + pO (5 + j) + c = 80 * k + 10 + 12 * j + c by unfold pO; split <;> omega, show 26 + (5 + j) = 31 + j by omega] at q
      rw [key _ (by omega), q]
      exact h.c j hc hj
    · rw [qsi_ne (by simp), qsi_ne (by simp), qsi_get, if_neg (by omega), qsi_ne (by simp), qsi_ne (by simp), qsi_self]
    · rw [qsi_ne (by simp), qsi_ne (by simp), qsi_self]
  · have f10 : Fr (fun a => a = (24, 0, 0) ∨ a = (40, 0, 0)) μ μ10 := ⟨fun a ha => b6 a (fun z => ha (Or.inl z)) (fun z => ha (Or.inr z)), fun a _ => by rw [b7], fun a _ => by rw [b7]⟩
    exact (((((f10.si' (Or.inr rfl)).si' (Or.inl rfl)).si' (Or.inl rfl)).si' (Or.inr rfl)).si' (Or.inl rfl)).si' (Or.inl rfl)
  · intro j j1 j2
    rw [qsi_get]
    by_cases e : j = 12
    · subst e; rw [if_pos ⟨rfl, rfl⟩, h.day]
    · rw [if_neg (fun z => e z.2), qsi_get, if_neg (fun z => j2 z.2), qsi_ne (by simp), qsi_get]
      by_cases e : j = 11
      · subst e; rw [if_pos ⟨rfl, rfl⟩, h.cnt]
      · rw [if_neg (fun z => e z.2), qsi_get, if_neg (fun z => j2 z.2), qsi_ne (by simp)]
        exact b3 j j1 j2
  · intro y hy
    rw [qsi_ne (by simp), qsi_ne (by simp), qsi_get, if_neg (by omega), qsi_ne (by simp), qsi_ne (by simp), qsi_get, if_neg (by omega)]
    exact b5 y (by have : pO (0 + 1 + 1 + 1 + 1 + 1 + 1 + 1 + 1 + 1 + 1) = 70 := by decide
                   omega)
theorem c_M_putb (d : Nat) {k : Nat} {s : AS} {μ : QM} (h : KS μ k s) (hn : aN s ≤ 12) (hk : k ≤ 9) :
    ∃ μ', qcall qprogs (d + 2) 170 [qR (24, 0, 0), qI (zI (k : Nat)), qI (zI 0)] μ = some (none, μ') ∧ RM μ' s ∧ Fr (fun a => a = (24, 0, 0) ∨ (26 ≤ a.1 ∧ a.1 ≤ 35)) μ μ' ∧ ∀ j, j ≠ 11 → j ≠ 12 → j ≠ 22 → j ≠ 23 → μ'.1 (24, 0, 0) j = μ.1 (24, 0, 0) j := by
  have a0 : KB μ (qsi (qsi μ (24, 0, 0) 23 (zI ((80 * k : Nat) : Int))) (24, 0, 0) 22 (zI 0)) k 0 := ⟨by rw [qsi_get, if_neg (by simp), qsi_self]; rfl, qsi_self _ _ _ _, fun j a b => by rw [qsi_get, if_neg (fun z => a z.2), qsi_get, if_neg (fun z => b z.2)], fun _ h => absurd h (by omega), fun a a1 _ => by rw [qsi_ne a1, qsi_ne a1], rfl⟩
  obtain ⟨μ1, r1, a1⟩ := a0.step d hk (by decide)
  obtain ⟨μ2, r2, a2⟩ := a1.step d hk (by decide)
  obtain ⟨μ3, r3, a3⟩ := a2.step d hk (by decide)
  obtain ⟨μ4, r4, a4⟩ := a3.step d hk (by decide)
  obtain ⟨μ5, r5, a5⟩ := a4.step d hk (by decide)
  obtain ⟨μ6, r6, a6⟩ := a5.step d hk (by decide)
  obtain ⟨μ7, r7, a7⟩ := a6.step d hk (by decide)
  obtain ⟨μ8, r8, a8⟩ := a7.step d hk (by decide)
  obtain ⟨μ9, r9, a9⟩ := a8.step d hk (by decide)
  obtain ⟨μ10, r10, a10⟩ := a9.step d hk (by decide)
  obtain ⟨b1, b2, b3, b4, b6, b7⟩ := a10
  obtain ⟨s1, s2, s3, s4⟩ := h
  have e70 : pO 10 = 70 := by decide
  have one : ∀ (d : Nat) (v : Int32) (y : Nat) (m : QM), m.1 (24, 0, 0) 22 = zI 0 → m.1 (24, 0, 0) 23 = zI (y : Nat) → y < 800 → qcall qprogs (d + 1) 169 [qR (24, 0, 0), qI v] m = some (some (qI (m.1 (40, 0, 0) y)), qsi m (24, 0, 0) 23 (zI ((y + 1 : Nat) : Int))) := fun d v y m h1 h2 h3 => by
    rw [qe_M_passOne, qb_M_passOne_0, h1, if_pos (by decide +kernel), qb_M_passOne_11, h2, zI_oob (n := 800) (by omega), cond_false, qb_M_passOne_20, h1, if_pos (by decide +kernel), qb_M_passOne_38, h2, zI_of, zI_add, show qix (zI (y : Nat)) = y from zI_ixN (by omega)]
    rfl
  have v11 : μ10.1 (40, 0, 0) (80 * k + 70) = zI (aN s : Nat) := by rw [b6 _ (by simp) (by simp)]; exact s3
  have v12 : μ10.1 (40, 0, 0) (80 * k + 71) = zI (aD s : Nat) := by rw [b6 _ (by simp) (by simp)]; exact s4
  refine ⟨qsi (qsi (qsi (qsi μ10 (24, 0, 0) 23 (zI ((80 * k + 70 + 1 : Nat) : Int))) (24, 0, 0) 11 (zI (aN s : Nat))) (24, 0, 0) 23 (zI ((80 * k + 71 + 1 : Nat) : Int))) (24, 0, 0) 12 (zI (aD s : Nat)), ?_, ?_, ?_, ?_⟩
  · rw [qe_M_passesAll, qb_M_passesAll_0, if_pos (Or.inl (by decide +kernel)), zI_of, zI_mul, show (80 : Int) * (k : Nat) = ((80 * k : Nat) : Int) by omega, r1, qbV_some, r2, qbV_some, r3, qbV_some, r4, qbV_some, r5, qbV_some, r6, qbV_some, r7, qbV_some, r8, qbV_some, r9, qbV_some, r10, qbV_some, one d _ (80 * k + 70) μ10 b2 (by rw [b1, e70]) (by omega), qbI_some, v11]
    rw [one d _ (80 * k + 71) _ (by rw [qsi_get, if_neg (by simp), qsi_get, if_neg (by simp)]; exact b2) (by rw [qsi_get, if_neg (by simp), qsi_self]) (by omega), qbI_some]
    rw [show (qsi (qsi μ10 (24, 0, 0) 23 (zI ((80 * k + 70 + 1 : Nat) : Int))) (24, 0, 0) 11 (zI (aN s : Nat))).1 (40, 0, 0) (80 * k + 71) = zI (aD s : Nat) by rw [qsi_ne (by simp), qsi_ne (by simp)]; exact v12]
  · refine ⟨qsi_self _ _ _ _, by rw [qsi_get, if_neg (by simp), qsi_get, if_neg (by simp), qsi_self], fun w j hw hj => ?_, fun c j hc hj => ?_⟩
    · rw [qsi_ne (by simp; omega), qsi_ne (by simp; omega), qsi_ne (by simp; omega), qsi_ne (by simp; omega)]
      have q := b4 j (by omega) w (by unfold pL; rw [if_pos hj]; exact hw)
      rw [show 80 * k + pO j + w = 80 * k + 2 * j + w by unfold pO; rw [if_pos (by omega)]] at q
      rw [q]
      exact s1 w j hw hj
    · rw [qsi_ne (by simp; omega), qsi_ne (by simp; omega), qsi_ne (by simp; omega), qsi_ne (by simp; omega)]
      have q := b4 (5 + j) (by omega) c (by unfold pL; rw [if_neg (by omega)]; omega)
      rw [show 80 * k + pO (5 + j) + c = 80 * k + 10 + 12 * j + c by unfold pO; split <;> omega, show 26 + (5 + j) = 31 + j by omega] at q
      rw [q]
      exact s2 c j hc hj
  · have f10 : Fr (fun a => a = (24, 0, 0) ∨ (26 ≤ a.1 ∧ a.1 ≤ 35)) μ μ10 := ⟨fun a ha => b6 a (fun z => ha (Or.inl z)) (fun z => ha (Or.inr z)), fun a _ => by rw [b7], fun a _ => by rw [b7]⟩
    exact (((f10.si' (Or.inl rfl)).si' (Or.inl rfl)).si' (Or.inl rfl)).si' (Or.inl rfl)
  · intro j j1 j2 j3 j4
    rw [qsi_get, if_neg (fun z => j2 z.2), qsi_get, if_neg (fun z => j4 z.2), qsi_get, if_neg (fun z => j1 z.2), qsi_get, if_neg (fun z => j4 z.2)]
    exact b3 j j3 j4
/-- kept for a while, and put back -/
theorem m_keep1 (d : Nat) {μ : QM} {σ : GS} (h : MI μ σ) (ok : GOK σ) : ∃ μ', qcall qprogs (d + 2) 170 [qR (24, 0, 0), qI (zI 1), qI (zI 1)] μ = some (none, μ') ∧ RM μ' (gS σ) ∧ KS μ' 1 (gS σ) ∧ FrR μ μ' := by
  obtain ⟨μ', r1, r2, r3, r4, r5, r6⟩ := c_M_keep d (k := 1) h.1 ok.1.2.1 (by decide)
  exact ⟨μ', r1, r2, r3, ⟨r4.mono fun a ha => by
    rcases ha with e | e
    · exact Or.inl e
    · exact Or.inr (Or.inr (Or.inl (by rw [e]; decide))), fun j hj => r5 j (by omega) (by omega), fun x hx => r6 x (by omega)⟩⟩
theorem m_putb1 (d : Nat) {μ μ1 : QM} {σ : GS} (h : MI μ σ) (ok : GOK σ) (f : FrR μ μ1) (hk : KS μ1 1 (gS σ)) : ∃ μ', qcall qprogs (d + 2) 170 [qR (24, 0, 0), qI (zI 1), qI (zI 0)] μ1 = some (none, μ') ∧ MI μ' σ ∧ Fr isMd μ μ' ∧ FrR μ μ' := by
  obtain ⟨μ', r1, r2, r3, r4⟩ := c_M_putb d hk ok.1.2.1 (by decide)
  have f2 : FrR μ μ' := f.tr ⟨r3.mono fun a ha => by
    rcases ha with e | e
    · exact Or.inl e
    · exact Or.inr (Or.inl e), fun j hj => r4 j (by omega) (by omega) (by omega) (by omega), fun x _ => by rw [r3.1 _ (by simp)]⟩
  exact ⟨μ', r1, h.r ok f2 r2, f2.md, f2⟩
theorem KS.s {μ μ' : QM} {k : Nat} {s : AS} (h : KS μ k s) (f : FrS μ μ') : KS μ' k s := by
  unfold KS
  rw [f.1.1 (40, 0, 0) (by unfold isS; simp)]
  exact h
theorem KS.q {μ μ' : QM} {k : Nat} {s : AS} (h : KS μ k s) (f : FrQ μ μ') : KS μ' k s := by
  unfold KS
  rw [f.1.1 (40, 0, 0) (by unfold isQ; simp)]
  exact h
/-! the class's mind -/
theorem CI.mind {μ μ' : QM} {σ : GS} (h : CI μ σ) (f : Fr (isA 1) μ μ') : CI μ' σ ∧ Fr isCl μ μ' := by
  have fx : Fr isX μ μ' := f.mono fun a ha => Or.inr (Or.inl ha)
  have no : ∀ t p c, 5 ≤ t → ¬ isA 1 (t, p, c) := fun t p c ht z => by rcases z.1 with e | e | e <;> dsimp only at e <;> omega
  refine ⟨⟨h.1.x fx, fun p hp => ?_⟩, fx.mono isX.cl⟩
  obtain ⟨a, m', D', b⟩ := h.2 p hp
  exact ⟨a.fr f (fun c => no _ _ _ (by decide)), m', D', b.congr (by rw [f.1 _ (no 5 _ _ (by decide))]) (f.1 _ (no 7 _ _ (by decide)))⟩
theorem j_mind (d : Nat) {μ : QM} {σ : GS} (h : CI μ σ) (ok : GOK σ) : ∃ μ', qcall qprogs (d + 2) 9 [qR (2, 1, 0), qR (2, 0, 0)] μ = some (none, μ') ∧ CI μ' σ ∧ Fr isCl μ μ' ∧ RA μ' 1 (gS σ) := by
  obtain ⟨μ', r1, r2, r3⟩ := c_Affair_copyFrom d (j := 1) (j' := 0) (by decide) (by decide) (by decide) h.1.1 ok.1
  exact ⟨μ', r1, (h.mind r2).1, (h.mind r2).2, r3⟩
end
