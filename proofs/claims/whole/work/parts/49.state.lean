section
/-! changes of what is -/
def isHd (a : QA) : Prop := a = (0, 0, 0) ∨ (17 ≤ a.1 ∧ a.1 ≤ 20)
theorem isHd_A {j : Nat} (a : QA) (h : isA j a) : ¬ isHd a := fun h2 => by
  rcases h2 with q | q
  · rw [q] at h; rcases h.1 with e | e | e <;> exact absurd e (by decide)
  · rcases h.1 with e | e | e <;> omega
theorem isHd_cl (a : QA) (h : isHd a) : isCl a := by
  unfold isCl
  rcases h with q | q
  · rw [q]; decide
  · omega
theorem isA_cl {j : Nat} (a : QA) (h : isA j a) : isCl a := by
  unfold isCl
  rcases h.1 with e | e | e <;> omega
theorem isA_no {j t p c : Nat} (ht : t = 0 ∨ 4 ≤ t) : ¬ isA j (t, p, c) := fun z => by rcases z.1 with e | e | e <;> dsimp only at e <;> omega
theorem RA.hd {μ μ' : QM} {j : Nat} {s : AS} (h : RA μ j s) (f : Fr isHd μ μ') : RA μ' j s := h.fr f fun a h1 => isHd_A a h1
theorem CP.fr {P : QA → Prop} {μ μ' : QM} (h : CP μ) (f : Fr P μ μ') (hP : ∀ t p c, 5 ≤ t → t ≤ 12 → ¬ P (t, p, c)) : CP μ' := fun p hp => by
  obtain ⟨a, m', D', b⟩ := h p hp
  exact ⟨a.fr f (fun c => hP _ _ _ (by decide) (by decide)), m', D', b.congr (by rw [f.1 _ (hP 5 _ _ (by decide) (by decide))]) (f.1 _ (hP 7 _ _ (by decide) (by decide)))⟩
theorem CPic.c {μ μ' : QM} {o : Option AS} (h : CPic μ o) (e : μ'.1 (0, 0, 0) 3 = μ.1 (0, 0, 0) 3) (hA : ∀ s, RA μ 2 s → RA μ' 2 s) : CPic μ' o := by
  cases o with
  | none => exact e.trans h
  | some s => exact ⟨e.trans h.1, hA s h.2⟩
theorem CPast.cut {μ μ' : QM} {n k : Nat} {P : Nat → AS} (h : CPast μ n P) (hk : k ≤ n) (e : μ'.1 (0, 0, 0) 5 = zI (k : Nat)) (e2 : μ'.2.2 (17, 0, 0) = μ.2.2 (17, 0, 0)) (hA : ∀ j s, 3 ≤ j → RA μ j s → RA μ' j s) : CPast μ' k P := by
  obtain ⟨h1, h2, π, h3, h4, h5⟩ := h
  exact ⟨by omega, e, π, fun i hi => by rw [e2]; exact h3 i hi, h4, fun i hi => hA _ _ (h3 i (by omega)).2.1 (h5 i (by omega))⟩
theorem CLet.c {μ μ' : QM} {n : Nat} {T : Nat → Nat} (h : CLet μ n T) (e : μ'.1 (0, 0, 0) 7 = μ.1 (0, 0, 0) 7) (e2 : μ'.1 (18, 0, 0) = μ.1 (18, 0, 0)) : CLet μ' n T := ⟨e.trans h.1, fun i hi => by rw [e2]; exact h.2 i hi⟩
theorem CNum.c {μ μ' : QM} {n : Nat} {T : Nat → Nat} (h : CNum μ n T) (e : μ'.1 (0, 0, 0) 9 = μ.1 (0, 0, 0) 9) (e2 : μ'.1 (19, 0, 0) = μ.1 (19, 0, 0)) : CNum μ' n T := ⟨e.trans h.1, fun i hi => by rw [e2]; exact h.2 i hi⟩
theorem CRef.c {μ μ' : QM} {F : Nat → Nat} (h : CRef μ F) (e2 : μ'.1 (20, 0, 0) = μ.1 (20, 0, 0)) : CRef μ' F := fun k a b => by rw [e2]; exact h k a b
/-- another state; of the past only so many -/
def chS (σ : GS) (s : AS) (n : Nat) : GS := (s, gI σ, (n, gP σ), σ.2.2.2)
theorem GOK.ch {σ : GS} {s : AS} {n : Nat} (ok : GOK σ) (h : aOK s) (hn : n ≤ gN σ) : GOK (chS σ s n) := ⟨h, ok.2.1, Nat.le_trans hn ok.2.2.1, fun i (hi : i < n) => ok.2.2.2.1 i (by omega), ok.2.2.2.2⟩
theorem CI.ch {μ μ' : QM} {σ : GS} {s : AS} {n : Nat} (h : CI μ σ) (hn : n ≤ gN σ) (f : Fr (fun a => isA 0 a ∨ a = (0, 0, 0)) μ μ') (r : RA μ' 0 s) (e5 : μ'.1 (0, 0, 0) 5 = zI (n : Nat)) (e : ∀ k, k ≠ 5 → μ'.1 (0, 0, 0) k = μ.1 (0, 0, 0) k) : CI μ' (chS σ s n) ∧ Fr isCl μ μ' := by
  obtain ⟨⟨h1, h2, h3, h4, h5, h6⟩, h7⟩ := h
  have no : ∀ t p c, 4 ≤ t → ¬ (isA 0 (t, p, c) ∨ (t, p, c) = ((0, 0, 0) : QA)) := fun t p c ht z => by
    rcases z with z | z
    · exact isA_no (Or.inr ht) z
    · simp at z; omega
  have hA : ∀ j s, j ≠ 0 → RA μ j s → RA μ' j s := fun j s hj q => q.fr f fun a a1 a2 => by
    rcases a2 with a2 | a2
    · exact hj (a1.2.symm.trans a2.2)
    · rw [a2] at a1; exact isA_no (Or.inl rfl) a1
  refine ⟨⟨⟨r, h2.c (e 3 (by decide)) (fun s => hA 2 s (by decide)), h3.cut hn e5 (f.2.2 _ (no _ _ _ (by decide))) (fun j s hj => hA j s (by omega)), h4.c (e 7 (by decide)) (f.1 _ (no _ _ _ (by decide))), h5.c (e 9 (by decide)) (f.1 _ (no _ _ _ (by decide))), h6.c (f.1 _ (no _ _ _ (by decide)))⟩, h7.fr f fun t p c ht _ => no t p c (by omega)⟩, f.mono fun a ha => ?_⟩
  rcases ha with q | q
  · exact isA_cl a q
  · rw [q]; exact (by decide : 0 ≤ 23)
theorem MPic.c {μ μ' : QM} {o : Option AS} (h : MPic μ o) (ok : ∀ s, o = some s → aOK s) (e : μ'.1 (24, 0, 0) 21 = μ.1 (24, 0, 0) 21) (e2 : ∀ x, x < 80 → μ'.1 (40, 0, 0) x = μ.1 (40, 0, 0) x) : MPic μ' o := by
  cases o with
  | none => exact e.trans h
  | some s => exact ⟨e.trans h.1, h.2.congr (ok s rfl).2.1 fun x _ b => e2 x b⟩
theorem MPast.cut {μ μ' : QM} {n k : Nat} {P : Nat → AS} (h : MPast μ n P) (ok : ∀ i, i < n → aOK (P i)) (hk : k ≤ n) (e : μ'.1 (24, 0, 0) 24 = zI (k : Nat)) (e2 : ∀ x, 160 ≤ x → μ'.1 (40, 0, 0) x = μ.1 (40, 0, 0) x) : MPast μ' k P := ⟨Nat.le_trans hk h.1, e, fun i hi => (h.2.2 i (by omega)).congr (ok i (by omega)).2.1 fun x a _ => e2 x (by omega)⟩
theorem MLet.c {μ μ' : QM} {n : Nat} {T : Nat → Nat} (h : MLet μ n T) (e : μ'.1 (24, 0, 0) 17 = μ.1 (24, 0, 0) 17) (e2 : μ'.1 (36, 0, 0) = μ.1 (36, 0, 0)) : MLet μ' n T := ⟨e.trans h.1, fun i hi => by rw [e2]; exact h.2 i hi⟩
theorem MNum.c {μ μ' : QM} {n : Nat} {T : Nat → Nat} (h : MNum μ n T) (e : μ'.1 (24, 0, 0) 33 = μ.1 (24, 0, 0) 33) (e2 : μ'.1 (45, 0, 0) = μ.1 (45, 0, 0)) : MNum μ' n T := ⟨e.trans h.1, fun i hi => by rw [e2]; exact h.2 i hi⟩
theorem MRef.c {μ μ' : QM} {F : Nat → Nat} (h : MRef μ F) (e2 : μ'.1 (25, 0, 0) = μ.1 (25, 0, 0)) : MRef μ' F := fun k a b => by rw [e2]; exact h k a b
theorem MI.ch {μ μ' : QM} {σ : GS} {s : AS} {n : Nat} (h : MI μ σ) (ok : GOK σ) (hn : n ≤ gN σ) (f : Fr isRd μ μ') (r : RM μ' s) (e24 : μ'.1 (24, 0, 0) 24 = zI (n : Nat)) (e : ∀ k, k = 17 ∨ k = 21 ∨ k = 33 → μ'.1 (24, 0, 0) k = μ.1 (24, 0, 0) k) (e40 : ∀ x, x < 80 ∨ 160 ≤ x → μ'.1 (40, 0, 0) x = μ.1 (40, 0, 0) x) : MI μ' (chS σ s n) ∧ Fr isMd μ μ' := by
  obtain ⟨h1, h2, h3, h4, h5, h6⟩ := h
  refine ⟨⟨r, h2.c ok.2.1 (e 21 (by omega)) (fun x a => e40 x (Or.inl a)), h3.cut ok.2.2.2.1 hn e24 (fun x a => e40 x (Or.inr a)), h4.c (e 17 (by omega)) (f.1 _ (by unfold isRd; simp)), h5.c (e 33 (by omega)) (f.1 _ (by unfold isRd; simp)), h6.c (f.1 _ (by unfold isRd; simp))⟩, f.mono fun a ha => ?_⟩
  unfold isMd
  rcases ha with q | q | q | q
  · rw [q]; decide
  · omega
  · omega
  · omega
theorem RM.row {μ : QM} {s : AS} {t k : Nat} {v : Int32} (h : RM μ s) (ht : t < 24 ∨ t = 25 ∨ 36 ≤ t) : RM (qsi μ (t, 0, 0) k v) s := h.congr (by rw [qsi_ne (by simp; omega)]) (by rw [qsi_ne (by simp; omega)]) (fun j hj => qsi_ne (by simp; omega)) rfl rfl (fun _ _ _ _ => rfl) (fun _ _ _ _ => rfl)
theorem RM.fld {μ : QM} {s : AS} {k : Nat} {v : Int32} (h : RM μ s) (hk : k ≠ 11 ∧ k ≠ 12) : RM (qsi μ (24, 0, 0) k v) s := h.congr (by rw [qsi_get, if_neg (by omega)]) (by rw [qsi_get, if_neg (by omega)]) (fun j hj => qsi_ne (by simp; omega)) rfl rfl (fun _ _ _ _ => rfl) (fun _ _ _ _ => rfl)
/-! what is told of one, of a cause -/
theorem op_one {σ : GS} (ok : GOK σ) {z1 z2 : Int} (h1 : iB z1) (h2 : iB z2) : OP 59 185 [qI (zI z1), qI (zI z2)] σ := by
  have b3 := h2.1
  have b4 := h2.2
  by_cases hz : z1 = 0 ∨ z1 = 1
  · obtain ⟨w, rfl, hw⟩ : ∃ w : Nat, z1 = w ∧ w < 2 := ⟨z1.toNat, by omega, by omega⟩
    have eJ : ∀ d μ, CI μ σ → qcall qprogs (d + 30) 59 [qR (0, 0, 0), qI (zI (w : Nat)), qI (zI z2)] μ = qbR 3 (qcall qprogs (d + 29) 10 [qR (2, 0, 0), qI (zI (w : Nat))] μ) (fun j2 c3 μ1 => if zI z2 = Int32.ofInt 0 then qx (d + 29) qc_J_one 56 [none, none, none, some (qR (3, j2, c3))] [] μ1 else if zI z2 = Int32.ofInt 1 then qx (d + 29) qc_J_one 61 [none, none, none, some (qR (3, j2, c3))] [] μ1 else if zI z2 = Int32.ofInt 2 then qx (d + 29) qc_J_one 66 [none, none, none, some (qR (3, j2, c3))] [] μ1 else if zI z2 = Int32.ofInt 3 then qx (d + 29) qc_J_one 71 [none, none, none, some (qR (3, j2, c3))] [] μ1 else if zI z2 = Int32.ofInt 4 then qx (d + 29) qc_J_one 76 [none, none, none, some (qR (3, j2, c3))] [] μ1 else qx (d + 29) qc_J_one 89 [some (qR (0, 0, 0)), none, none, none] [] μ1) := fun d μ h => by
      rw [qe_J_one, qb_J_one_0, c_J_isNobody (d + 28) h1, qbI_some, decide_eq_true hz, if_pos (by decide), qb_J_one_13]
    have eM : ∀ d μ, MI μ σ → qcall qprogs (d + 30) 185 [qR (24, 0, 0), qI (zI (w : Nat)), qI (zI z2)] μ = qx (d + 29) qc_M_one 13 [some (qR (24, 0, 0)), some (qI (zI (w : Nat))), some (qI (zI z2))] [] μ := fun d μ h => by
      rw [qe_M_one, qb_M_one_0, c_M_isOne (d + 28) h1, qbI_some, decide_eq_true hz, if_neg (by decide)]
    by_cases hk : 0 ≤ z2 ∧ z2 ≤ 4
    · obtain ⟨k, rfl, hk⟩ : ∃ k : Nat, z2 = k ∧ k < 5 := ⟨z2.toNat, by omega, by omega⟩
      have p4 := (ok.1.p hw).2.2.2.2
      refine ⟨qI (zI (aP (gS σ) w k : Nat)), σ, fun d μ h => ⟨μ, ?_, h, Fr.rf⟩, fun d μ h => ⟨μ, ?_, h, Fr.rf⟩, ok⟩
      · rw [eJ d μ h, c_Affair_person (d + 28) (show 0 < 11 by decide) hw, qbR_some (qd3 (by decide) hw)]
        rcases (by omega : k = 0 ∨ k = 1 ∨ k = 2 ∨ k = 3 ∨ k = 4) with rfl | rfl | rfl | rfl | rfl
        · rw [if_pos (by decide +kernel), qb_J_one_56, h.1.1.p 0 hw]
        · rw [if_neg (by decide +kernel), if_pos (by decide +kernel), qb_J_one_61, h.1.1.p 1 hw]
        · rw [if_neg (by decide +kernel), if_neg (by decide +kernel), if_pos (by decide +kernel), qb_J_one_66, h.1.1.p 2 hw]
        · rw [if_neg (by decide +kernel), if_neg (by decide +kernel), if_neg (by decide +kernel), if_pos (by decide +kernel), qb_J_one_71, h.1.1.p 3 hw]
        · rw [if_neg (by decide +kernel), if_neg (by decide +kernel), if_neg (by decide +kernel), if_neg (by decide +kernel), if_pos (by decide +kernel), qb_J_one_76, h.1.1.p 4 hw, qbz_z p4]
          rcases (by omega : aP (gS σ) w 4 = 0 ∨ aP (gS σ) w 4 = 1) with e | e
          · rw [e, if_pos (by decide +kernel), qb_J_one_87, qb_J_one_88]; rfl
          · rw [e, if_neg (by decide +kernel), qb_J_one_88]; rfl
      · rw [eM d μ h, qb_M_one_13]
        rcases (by omega : k = 0 ∨ k = 1 ∨ k = 2 ∨ k = 3 ∨ k = 4) with rfl | rfl | rfl | rfl | rfl
        · rw [if_pos (by decide +kernel), qb_M_one_48, zI_oob (n := 2) (by omega), cond_false, show qix (zI (w : Nat)) = w from zI_ixN (by omega), h.1.wd hw]
        · rw [if_neg (by decide +kernel), if_pos (by decide +kernel), qb_M_one_55, zI_oob (n := 2) (by omega), cond_false, show qix (zI (w : Nat)) = w from zI_ixN (by omega), h.1.pu hw]
        · rw [if_neg (by decide +kernel), if_neg (by decide +kernel), if_pos (by decide +kernel), qb_M_one_62, zI_oob (n := 2) (by omega), cond_false, show qix (zI (w : Nat)) = w from zI_ixN (by omega), h.1.bo hw]
        · rw [if_neg (by decide +kernel), if_neg (by decide +kernel), if_neg (by decide +kernel), if_pos (by decide +kernel), qb_M_one_69, zI_oob (n := 2) (by omega), cond_false, show qix (zI (w : Nat)) = w from zI_ixN (by omega), h.1.ow hw]
        · rw [if_neg (by decide +kernel), if_neg (by decide +kernel), if_neg (by decide +kernel), if_neg (by decide +kernel), if_pos (by decide +kernel), qb_M_one_76, zI_oob (n := 2) (by omega), cond_false, show qix (zI (w : Nat)) = w from zI_ixN (by omega), h.1.je hw]
    · refine ⟨qI (zI (-2)), refS σ 2, fun d μ h => ?_, fun d μ h => ?_, ok.ref⟩
      · rw [eJ d μ h, c_Affair_person (d + 28) (show 0 < 11 by decide) hw, qbR_some (qd3 (by decide) hw)]
        simp (disch := omega) only [zI_of, zI_0, zI_1, zI_add, zI_sub, zI_mul, zI_neg, zI_lt, zI_le, zI_eq, zI_rem, zI_oob, zI_ixN, zI_ix, zI_ite, zI10, zI01, Int.toNat_natCast, cond_false, cond_true, q01_0, q01_1, q01_0z, q01_1z, qB_if, qB_ifz, qB_ret, qB_retz, qbI_some, qbV_some, qbL_some, qbR_some, qbN_some, qbN_none, true_or, or_true, false_or, or_false, if_true, if_false, Int.reduceEq, Int.reduceLT, Int.reduceLE, Int.reduceNeg]
        rw [if_neg (by omega), if_neg (by omega), if_neg (by omega), if_neg (by omega), if_neg (by omega), qb_J_one_89]
        exact j_ref1 (d := d + 28) (f := -2) h (by decide)
      · rw [eM d μ h, qb_M_one_13]
        simp (disch := omega) only [zI_of, zI_0, zI_1, zI_add, zI_sub, zI_mul, zI_neg, zI_lt, zI_le, zI_eq, zI_rem, zI_oob, zI_ixN, zI_ix, zI_ite, zI10, zI01, Int.toNat_natCast, cond_false, cond_true, q01_0, q01_1, q01_0z, q01_1z, qB_if, qB_ifz, qB_ret, qB_retz, qbI_some, qbV_some, qbL_some, qbR_some, qbN_some, qbN_none, true_or, or_true, false_or, or_false, if_true, if_false, Int.reduceEq, Int.reduceLT, Int.reduceLE, Int.reduceNeg]
        rw [if_neg (by omega), if_neg (by omega), if_neg (by omega), if_neg (by omega), if_neg (by omega), qb_M_one_83]
        exact m_ref1 (d := d + 28) (f := -2) h (by decide)
  · refine ⟨qI (zI (-1)), refS σ 1, fun d μ h => ?_, fun d μ h => ?_, ok.ref⟩
    · rw [qe_J_one, qb_J_one_0, c_J_isNobody (d + 28) h1, qbI_some, decide_eq_false hz, if_neg (by decide)]
      exact j_ref1 (d := d + 28) (f := -1) h (by decide)
    · rw [qe_M_one, qb_M_one_0, c_M_isOne (d + 28) h1, qbI_some, decide_eq_false hz, if_pos (by decide)]
      exact m_ref1 (d := d + 28) (f := -1) h (by decide)
/-- what is told of a cause -/
def cau (s : AS) (c k : Nat) : Nat := if k < 5 then aC s c k else if k = 5 then aK s c else if k = 6 then aW s c else if k = 7 then (if aX s c = true ∧ aT s c < aD s then 1 else 0) else if aG s c (aD s) = true then 1 else 0
theorem op_cause {σ : GS} (ok : GOK σ) {z1 z2 : Int} (h1 : iB z1) (h2 : iB z2) : OP 60 186 [qI (zI z1), qI (zI z2)] σ := by
  have b1 := h1.1
  have b2 := h1.2
  have b3 := h2.1
  have b4 := h2.2
  have n12 := ok.1.2.1
  have bD := ok.1.1
  by_cases hz : 0 ≤ z1 ∧ z1 < aN (gS σ)
  · obtain ⟨c, rfl, hc⟩ : ∃ c : Nat, z1 = c ∧ c < aN (gS σ) := ⟨z1.toNat, by omega, by omega⟩
    have b5 := (ok.1.c hc).2.2.2.2
    have bT := aT_le ok.1 hc
    by_cases hk : 0 ≤ z2 ∧ z2 ≤ 8
    · obtain ⟨k, rfl, hk⟩ : ∃ k : Nat, z2 = k ∧ k < 9 := ⟨z2.toNat, by omega, by omega⟩
      refine ⟨qI (zI (cau (gS σ) c k : Nat)), σ, fun d μ h => ⟨μ, ?_, h, Fr.rf⟩, fun d μ h => ⟨μ, ?_, h, Fr.rf⟩, ok⟩
      · rw [qe_J_cause, qb_J_cause_0, c_Affair_causeAt (d + 28) (show 0 < 11 by decide) h.1.1 ok.1 hc, qbN_some (qd1 (by decide) (by omega)), qb_J_cause_19]
        rcases (by omega : k = 0 ∨ k = 1 ∨ k = 2 ∨ k = 3 ∨ k = 4 ∨ k = 5 ∨ k = 6 ∨ k = 7 ∨ k = 8) with rfl | rfl | rfl | rfl | rfl | rfl | rfl | rfl | rfl
        · rw [if_pos (by decide +kernel), qb_J_cause_72, h.1.1.c 0 hc]; rfl
        · rw [if_neg (by decide +kernel), if_pos (by decide +kernel), qb_J_cause_77, h.1.1.c 1 hc]; rfl
        · rw [if_neg (by decide +kernel), if_neg (by decide +kernel), if_pos (by decide +kernel), qb_J_cause_82, h.1.1.c 2 hc]; rfl
        · rw [if_neg (by decide +kernel), if_neg (by decide +kernel), if_neg (by decide +kernel), if_pos (by decide +kernel), qb_J_cause_87, h.1.1.c 3 hc]; rfl
        · rw [if_neg (by decide +kernel), if_neg (by decide +kernel), if_neg (by decide +kernel), if_neg (by decide +kernel), if_pos (by decide +kernel), qb_J_cause_92, h.1.1.c 4 hc, qbz_z b5]
          show _ = some (some (qI (zI (aC (gS σ) c 4 : Nat))), μ)
          rcases (by omega : aC (gS σ) c 4 = 0 ∨ aC (gS σ) c 4 = 1) with e | e
          · rw [e, if_pos (by decide +kernel), qb_J_cause_103, qb_J_cause_104]; rfl
          · rw [e, if_neg (by decide +kernel), qb_J_cause_104]; rfl
        · rw [if_neg (by decide +kernel), if_neg (by decide +kernel), if_neg (by decide +kernel), if_neg (by decide +kernel), if_neg (by decide +kernel), if_pos (by decide +kernel), qb_J_cause_105, h.1.1.k hc]; rfl
        · rw [if_neg (by decide +kernel), if_neg (by decide +kernel), if_neg (by decide +kernel), if_neg (by decide +kernel), if_neg (by decide +kernel), if_neg (by decide +kernel), if_pos (by decide +kernel), qb_J_cause_110, h.1.1.w hc]; rfl
        · rw [if_neg (by decide +kernel), if_neg (by decide +kernel), if_neg (by decide +kernel), if_neg (by decide +kernel), if_neg (by decide +kernel), if_neg (by decide +kernel), if_neg (by decide +kernel), if_pos (by decide +kernel), qb_J_cause_115, h.1.1.c 4 hc, qbz_z b5, c_Cause_lastDay (d + 28) (show 0 < 11 by decide) h.1.1 ok.1 hc, qbI_some, h.1.1.day]
          show _ = some (some (qI (zI ((if aX (gS σ) c = true ∧ aT (gS σ) c < aD (gS σ) then 1 else 0 : Nat) : Int))), μ)
          rcases (by omega : aC (gS σ) c 4 = 0 ∨ aC (gS σ) c 4 = 1) with e | e
          · have ex : aX (gS σ) c = true := by simp [aX, e]
            rw [e, if_pos (show zI ((0 : Nat) : Int) = 0 from zI0)]
            by_cases q : aT (gS σ) c < aD (gS σ)
            · rw [if_neg (by rw [zI_le (by omega)]; omega), if_pos ⟨ex, q⟩, qb_J_cause_141]; rfl
            · rw [if_pos (by rw [zI_le (by omega)]; omega), if_neg (fun z => q z.2), qb_J_cause_140, qb_J_cause_141]; rfl
          · have ex : ¬ aX (gS σ) c = true := by simp [aX, e]
            rw [e, if_neg (show ¬ zI ((1 : Nat) : Int) = 0 by decide +kernel), if_neg (fun z => ex z.1), qb_J_cause_140, qb_J_cause_141]; rfl
        · rw [if_neg (by decide +kernel), if_neg (by decide +kernel), if_neg (by decide +kernel), if_neg (by decide +kernel), if_neg (by decide +kernel), if_neg (by decide +kernel), if_neg (by decide +kernel), if_neg (by decide +kernel), if_pos (by decide +kernel), qb_J_cause_142, h.1.1.day, c_Affair_isGood (d + 27) (show 0 < 11 by decide) h.1.1 ok.1 hc (by omega), qbI_some, qB_if]
          show _ = some (some (qI (zI ((if aG (gS σ) c (aD (gS σ)) = true then 1 else 0 : Nat) : Int))), μ)
          cases aG (gS σ) c (aD (gS σ))
          · rw [cond_false, qb_J_cause_164, qb_J_cause_165]; rfl
          · rw [cond_true, qb_J_cause_165]; rfl
      · rw [qe_M_cause, qb_M_cause_0, c_M_isCause (d + 28) h.1 ok.1 h1, qbI_some, decide_eq_true hz, if_neg (by decide), qb_M_cause_14]
        rcases (by omega : k = 0 ∨ k = 1 ∨ k = 2 ∨ k = 3 ∨ k = 4 ∨ k = 5 ∨ k = 6 ∨ k = 7 ∨ k = 8) with rfl | rfl | rfl | rfl | rfl | rfl | rfl | rfl | rfl
        · rw [if_pos (by decide +kernel), qb_M_cause_64, zI_oob (n := 12) (by omega), cond_false, show qix (zI (c : Nat)) = c from zI_ixN (by omega), h.1.ki hc]; rfl
        · rw [if_neg (by decide +kernel), if_pos (by decide +kernel), qb_M_cause_71, zI_oob (n := 12) (by omega), cond_false, show qix (zI (c : Nat)) = c from zI_ixN (by omega), h.1.fi hc]; rfl
        · rw [if_neg (by decide +kernel), if_neg (by decide +kernel), if_pos (by decide +kernel), qb_M_cause_78, zI_oob (n := 12) (by omega), cond_false, show qix (zI (c : Nat)) = c from zI_ixN (by omega), h.1.wh hc]; rfl
        · rw [if_neg (by decide +kernel), if_neg (by decide +kernel), if_neg (by decide +kernel), if_pos (by decide +kernel), qb_M_cause_85, zI_oob (n := 12) (by omega), cond_false, show qix (zI (c : Nat)) = c from zI_ixN (by omega), h.1.fo hc]; rfl
        · rw [if_neg (by decide +kernel), if_neg (by decide +kernel), if_neg (by decide +kernel), if_neg (by decide +kernel), if_pos (by decide +kernel), qb_M_cause_92, zI_oob (n := 12) (by omega), cond_false, show qix (zI (c : Nat)) = c from zI_ixN (by omega), h.1.us hc]; rfl
        · rw [if_neg (by decide +kernel), if_neg (by decide +kernel), if_neg (by decide +kernel), if_neg (by decide +kernel), if_neg (by decide +kernel), if_pos (by decide +kernel), qb_M_cause_99, c_M_keepsOf (d + 28) h.1 ok.1 hc, qbI_some]; rfl
        · rw [if_neg (by decide +kernel), if_neg (by decide +kernel), if_neg (by decide +kernel), if_neg (by decide +kernel), if_neg (by decide +kernel), if_neg (by decide +kernel), if_pos (by decide +kernel), qb_M_cause_105, c_M_weightOf (d + 28) h.1 ok.1 hc, qbI_some]; rfl
        · rw [if_neg (by decide +kernel), if_neg (by decide +kernel), if_neg (by decide +kernel), if_neg (by decide +kernel), if_neg (by decide +kernel), if_neg (by decide +kernel), if_neg (by decide +kernel), if_pos (by decide +kernel), qb_M_cause_111, qe_M_isSour, qb_M_isSour_0, zI_oob (n := 12) (by omega), cond_false, show qix (zI (c : Nat)) = c from zI_ixN (by omega), h.1.us hc, c_M_goodTill (d + 26) h.1 ok.1 hc, qbI_some, h.1.day]
          show _ = some (some (qI (zI ((if aX (gS σ) c = true ∧ aT (gS σ) c < aD (gS σ) then 1 else 0 : Nat) : Int))), μ)
          rcases (by omega : aC (gS σ) c 4 = 0 ∨ aC (gS σ) c 4 = 1) with e | e
          · have ex : aX (gS σ) c = true := by simp [aX, e]
            rw [e, if_pos (show zI ((0 : Nat) : Int) = 0 from zI0)]
            by_cases q : aT (gS σ) c < aD (gS σ)
            · rw [if_neg (by rw [zI_le (by omega)]; omega), if_pos ⟨ex, q⟩, qb_M_isSour_26, if_pos (by decide +kernel), qbI_some, if_neg (by decide +kernel), qb_M_cause_124]; rfl
            · rw [if_pos (by rw [zI_le (by omega)]; omega), if_neg (fun z => q z.2), qb_M_isSour_25, qb_M_isSour_26, if_pos (by decide +kernel), qbI_some, if_pos (by decide +kernel), qb_M_cause_123, qb_M_cause_124]; rfl
          · have ex : ¬ aX (gS σ) c = true := by simp [aX, e]
            rw [e, if_neg (show ¬ zI ((1 : Nat) : Int) = 0 by decide +kernel), if_neg (fun z => ex z.1), qb_M_isSour_25, qb_M_isSour_26, if_pos (by decide +kernel), qbI_some, if_pos (by decide +kernel), qb_M_cause_123, qb_M_cause_124]; rfl
        · rw [if_neg (by decide +kernel), if_neg (by decide +kernel), if_neg (by decide +kernel), if_neg (by decide +kernel), if_neg (by decide +kernel), if_neg (by decide +kernel), if_neg (by decide +kernel), if_neg (by decide +kernel), if_pos (by decide +kernel), qb_M_cause_125, h.1.day, c_M_isGood (d + 26) h.1 ok.1 hc (by omega), qbI_some, qB_if]
          show _ = some (some (qI (zI ((if aG (gS σ) c (aD (gS σ)) = true then 1 else 0 : Nat) : Int))), μ)
          cases aG (gS σ) c (aD (gS σ))
          · rw [cond_false, qb_M_cause_141, qb_M_cause_142]; rfl
          · rw [cond_true, qb_M_cause_142]; rfl
    · refine ⟨qI (zI (-2)), refS σ 2, fun d μ h => ?_, fun d μ h => ?_, ok.ref⟩
      · rw [qe_J_cause, qb_J_cause_0, c_Affair_causeAt (d + 28) (show 0 < 11 by decide) h.1.1 ok.1 hc, qbN_some (qd1 (by decide) (by omega)), qb_J_cause_19]
        simp only [zI_of]
        rw [if_neg (by rw [zI_eq (by omega)]; omega), if_neg (by rw [zI_eq (by omega)]; omega), if_neg (by rw [zI_eq (by omega)]; omega), if_neg (by rw [zI_eq (by omega)]; omega), if_neg (by rw [zI_eq (by omega)]; omega), if_neg (by rw [zI_eq (by omega)]; omega), if_neg (by rw [zI_eq (by omega)]; omega), if_neg (by rw [zI_eq (by omega)]; omega), if_neg (by rw [zI_eq (by omega)]; omega), qb_J_cause_166]
        exact j_ref1 (d := d + 28) (f := -2) h (by decide)
      · rw [qe_M_cause, qb_M_cause_0, c_M_isCause (d + 28) h.1 ok.1 h1, qbI_some, decide_eq_true hz, if_neg (by decide), qb_M_cause_14]
        simp only [zI_of]
        rw [if_neg (by rw [zI_eq (by omega)]; omega), if_neg (by rw [zI_eq (by omega)]; omega), if_neg (by rw [zI_eq (by omega)]; omega), if_neg (by rw [zI_eq (by omega)]; omega), if_neg (by rw [zI_eq (by omega)]; omega), if_neg (by rw [zI_eq (by omega)]; omega), if_neg (by rw [zI_eq (by omega)]; omega), if_neg (by rw [zI_eq (by omega)]; omega), if_neg (by rw [zI_eq (by omega)]; omega), qb_M_cause_143]
        exact m_ref1 (d := d + 28) (f := -2) h (by decide)
  · refine ⟨qI (zI (-1)), refS σ 1, fun d μ h => ?_, fun d μ h => ?_, ok.ref⟩
    · rw [qe_J_cause, qb_J_cause_0, c_Affair_causeAtN (d + 28) (show 0 < 11 by decide) h.1.1 ok.1 (by rw [zI_int b1 b2]; omega), qbN_none]
      exact j_ref1 (d := d + 28) (f := -1) h (by decide)
    · rw [qe_M_cause, qb_M_cause_0, c_M_isCause (d + 28) h.1 ok.1 h1, qbI_some, decide_eq_false hz, if_pos (by decide)]
      exact m_ref1 (d := d + 28) (f := -1) h (by decide)
end
